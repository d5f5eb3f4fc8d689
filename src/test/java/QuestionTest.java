/** Promises 9 to 19: the questions, on claims whose answers can be told by hand. */
public final class QuestionTest {
    public static void main(String[] args) {
        possible();
        divisions();
        alwaysAndNeverSame();
        held();
        reaches();
        leastAndMost();
        follows();
        contains();
        together();
        claimThatCannotBe();
        questionsChangeNothing();
        Due.end();
    }

    private static void possible(String claim, boolean want) {
        Due.is("possible: " + claim, Told.with(claim).possible(0), want);
    }

    private static void possible() {
        possible("", true);
        possible("0=1 1=2 0!3", true);
        possible("0=1 1=2 0!2", false);
        possible("0!0", false);
        possible("n-0", false);
        possible("0-1 0=n", false);
        possible("0-0", true);
        possible("0-1 0-1", false);
        possible("0-1 2-1", true);
        possible("0-1 2-1 0=2", false);
        possible("0*1 0*1", true);
        possible("0*1 0*1 0!1", false);
        possible("0*1 0*2", true);
        possible("0*1 0*2 1!0 2!0", false);
        possible("n*0", true);
        possible("n*0 0!n", false);
        possible("0*0", true);
        possible("0*0 0=n", true);
        possible("0*1 1*0 0!1", true);
        possible("0-1 0*1", true);
        possible("0-1 0*1 0!1", false);
        possible("0-1 1-2 2-3 3-4 4-n", true);
        possible("0-1 1-2 2-3 3-4 4-n 0*n", false);
        possible("0-1 1-2 2-3 3-4 4-0", true);
        possible("0*1 1*2 2*3 3*4 4*0 n*0", true);
        possible("0*1 1*2 2*3 3*4 4*0 n*0 1!0", false);
    }

    private static void divisions(String claim, int want) {
        Due.is("divisions: " + claim, Told.with(claim).divisions(0), want);
    }

    private static void divisions() {
        divisions("", 203);
        divisions("0=1", 52);
        divisions("0!1", 151);
        divisions("0=1 1=2 2=3 3=4 4=n", 1);
        divisions("0-1", 151);
        divisions("n*0", 52);
        divisions("0*1 0!1", 203 - 52 - 37);
        divisions("0-1 1-2 2-3 3-4 4-n", 1);
        divisions("0*n 1*n 2*n 3*n 4*n", 32);
        divisions("0!0", 0);
    }

    private static void alwaysAndNeverSame(String claim, int a, int b, boolean always, boolean never) {
        String asked = " " + a + " " + b + ": " + claim;
        Due.is("alwaysSame" + asked, Told.with(claim).alwaysSame(0, a, b), always);
        Due.is("alwaysSame turned" + asked, Told.with(claim).alwaysSame(0, b, a), always);
        Due.is("neverSame" + asked, Told.with(claim).neverSame(0, a, b), never);
        Due.is("neverSame turned" + asked, Told.with(claim).neverSame(0, b, a), never);
    }

    private static void alwaysAndNeverSame() {
        alwaysAndNeverSame("", 0, 1, false, false);
        alwaysAndNeverSame("", 0, 0, true, false);
        alwaysAndNeverSame("", 5, 5, true, false);
        alwaysAndNeverSame("0=1 1=2", 0, 2, true, false);
        alwaysAndNeverSame("0=1 1!2", 0, 2, false, true);
        alwaysAndNeverSame("0-1", 0, 5, false, true);
        alwaysAndNeverSame("0-1", 1, 5, false, false);
        alwaysAndNeverSame("0-1", 0, 1, false, false);
        alwaysAndNeverSame("0-1 2-3", 0, 2, false, true);
        alwaysAndNeverSame("0*1", 0, 5, false, false);
        alwaysAndNeverSame("0*1 0!1", 0, 5, false, true);
        alwaysAndNeverSame("n*3", 3, 5, true, false);
        alwaysAndNeverSame("0*1 0-2", 0, 1, true, false);
        alwaysAndNeverSame("0*1 0*1", 0, 1, true, false);
        alwaysAndNeverSame("0*1 0*2", 1, 2, false, false);
        alwaysAndNeverSame("0*1 0*2 1!2 0!1", 0, 2, true, false);
        alwaysAndNeverSame("0*n 1*n", 0, 1, false, false);
        alwaysAndNeverSame("0*n 1*n 0!n", 0, 1, false, true);
        alwaysAndNeverSame("0!0", 0, 0, true, true);
        alwaysAndNeverSame("0!0", 0, 5, true, true);
    }

    private static void held(String claim, int a, boolean want) {
        Due.is("held " + a + ": " + claim, Told.with(claim).held(0, a), want);
    }

    private static void held() {
        held("", 0, false);
        held("0-1", 0, true);
        held("0-1", 1, false);
        held("0-1 1=0", 1, true);
        held("0-1 2=0", 2, true);
        held("0*1", 0, false);
        held("0*1 0!1", 0, true);
        held("0*1 0!1", 1, false);
        held("0*1 0!1", 2, false);
        held("0*1 1-n", 0, true);
        held("0*1 1*n 0!n", 0, true);
        held("0*1 1*0 0!1", 1, true);
        held("0-1", 5, false);
        held("n-1", 5, true);
        held("0!0", 3, true);
    }

    private static void reaches(String claim, int a, int b, boolean want) {
        Due.is("reaches " + a + " " + b + ": " + claim, Told.with(claim).reaches(0, a, b), want);
    }

    private static void reaches() {
        reaches("", 0, 0, true);
        reaches("", 5, 5, true);
        reaches("", 0, 5, false);
        reaches("0=1", 0, 1, true);
        reaches("0-1", 0, 1, true);
        reaches("0-1", 1, 0, false);
        reaches("0*1", 0, 1, true);
        reaches("0*1", 1, 0, false);
        reaches("0*1 1=n", 0, 5, true);
        reaches("0-1 1-2 2-3 3-4 4-n", 0, 5, true);
        reaches("0-1 1-2 2-3 3-4 4-n", 1, 0, false);
        reaches("0-1 1-2 2-3 3-4 4-0", 1, 0, true);
        reaches("0*1 1*2 2*3 3*4 4*0", 3, 2, true);
        reaches("0*1 2*3 1=2", 0, 3, true);
        reaches("0*1 2*3", 0, 3, false);
        reaches("0*1 0!1", 0, 2, false);
        reaches("0-0", 0, 5, false);
        reaches("0*n 1*n", 0, 1, false);
        reaches("0!0", 0, 1, true);
    }

    private static void cells(String claim, int least, int most) {
        Due.is("least: " + claim, Told.with(claim).least(0), least);
        Due.is("most: " + claim, Told.with(claim).most(0), most);
    }

    private static void leastAndMost() {
        int none = ListHeaps.NONE;
        cells("", 0, 0);
        cells("0-1", 1, 1);
        cells("0-1 1-2 2-3 3-4 4-n", 5, 5);
        cells("0*1", 0, none);
        cells("0*1 0=1", 0, 0);
        cells("0*1 0!1", 1, none);
        cells("0*1 1*0", 0, none);
        cells("0*1 1*0 0!1", 2, none);
        cells("0-1 0*2", 1, 1);
        cells("0-1 2*3 2-4", 2, 2);
        cells("n*0", 0, 0);
        cells("0-1 0-1", none, none);
        cells("0!0 0*1", none, none);
        cells("0*1 0*2 3-n", 1, none);
        cells("0*1 1-2 2-n", 2, none);
    }

    private static void follows(String claims, boolean want) {
        Due.is("follows: " + claims, Told.with(claims).follows(), want);
        if (want) {
            Due.is("contains, as it follows: " + claims, Told.with(claims).contains(), true);
        }
    }

    private static void follows() {
        follows("0: 1:", true);
        follows("0: 0-1 1: 0-1", true);
        follows("0: 0-1 1:", false);
        follows("0: 1: 0-1", false);
        follows("0: 0=1 1=2 1: 0=2", true);
        follows("0: 0=1 1: 0=2", false);
        follows("0: 0!1 1: 1!0", true);
        follows("0: 0-1 1: 0-1 0!n", true);
        follows("0: 0*1 1: 0*1 0!n", false);
        follows("0: 0-1 2-3 1: 2-3 0-1 0!2", true);
        follows("0: 0-1 1: 0*1", false);
        follows("0: 0-1 0!1 1: 0*1", true);
        follows("0: 0*1 0!1 1: 0-1", false);
        follows("0: 0-n 1: 0*n", true);
        follows("0: 0*n 1: 0-n", false);
        // A list may run through the end of the other one, unless something is known to be there.
        follows("0: 0*1 1*2 1: 0*2", false);
        follows("0: 0*1 1*2 0!2 1: 0*2", false);
        follows("0: 0*1 1-2 0!2 1!2 1: 0*2", false);
        follows("0: 0-1 1*2 0!2 1: 0*2", true);
        follows("0: 0*1 1*n 1: 0*n", true);
        follows("0: 0-1 1-2 1: 0*2", false);
        follows("0: 0-1 1-2 0!2 1!2 1: 0*2", true);
        follows("0: 0*1 1-2 1: 0*2", false);
        follows("0: 0*1 1*2 2-3 1: 0*2 2-3", true);
        follows("0: 0*1 1*2 2*3 1: 0*2 2*3", false);
        follows("0: 0*1 1*2 2*3 2!3 1: 0*2 2*3", true);
        follows("0: 0*1 1*2 2*3 3!2 2=0 1: 0*2 2*3", true);
        // The end of a list is never inside it, but other names may be.
        follows("0: 0*1 0!1 1: 0*1 0!1", true);
        follows("0: 0*n 2!n 2!0 1: 0*2 2*n", false);
        follows("0: 0*1 2=1 1: 0*2", true);
        follows("0: 0*1 1*2 0=2 1: 0*1 1*2", true);
        follows("0: 0*1 1*0 1: 1*0 0*1", true);
        follows("0: 0*1 1*0 0!1 1: 0*0", false);
        follows("0: 0*1 1*2 2*0 0!1 1!2 0!2 1: 0*2 2*0", true);
        follows("0: 0*0 1:", true);
        follows("0: 1: 3*3 n*n", true);
        follows("0: 0-0 1: 0*0", false);
        follows("0: 0*1 0*1 1:", true);
        follows("0: 0*1 0*1 1: 0=1", true);
        follows("0: 0-1 1: 0-2", false);
        follows("0: 0-1 1=2 1: 0-2", true);
        follows("0: 0-1 0=3 1: 3-1", true);
        follows("0: 0*1 1*2 2*3 3*4 4*n 1: 0*n", true);
        follows("0: 0*1 1*2 2*3 3*4 4*n 1: 0*3 3*n", true);
        follows("0: 0*1 1*2 2*3 3*4 4*n 1: 1*n 0*1", true);
        follows("0: 0*1 1*2 2*3 3*4 4*n 1: 1*n", false);
        // A list with cells is no cell, also where no name is left that could be inside it.
        follows("0: 0*n 0!n 1=0 2=0 3=0 4=0 1: 0-n", false);
        follows("0: 0-n 1-n 2-n 3-n 4*n 4!n 1: 0-n 1-n 2-n 3-n 4-n", false);
        follows("0: 0-n 1-n 2-n 3-n 4*n 4!n 1: 0-n 1-n 2-n 3-n 4*n", true);
        // Just one name can be inside a list, or just be outside of it.
        follows("0: 2*3 3*0 2!0 1=n 4=n 1: 2*0", false);
        follows("0: 2*3 3*1 2!1 0=n 4=n 1: 2*1", false);
        follows("0: 0*1 1*4 0!4 2=n 3=n 1: 0*4", false);
        follows("0: 0*1 1*4 0!4 2=n 3=n 4=n 1: 0*4", true);
        follows("0: 0-n 1-n 2-n 3*n 3!n 4!0 4!1 4!2 1: 0-n 1-n 2-n 3*4 4*n", false);
        follows("0: 0-n 1-n 2-n 3*n 3!n 4!0 4!1 4!2 4=3 1: 0-n 1-n 2-n 3*4 4*n", true);
        // Each part needs a piece of its own.
        follows("0: 0-1 1: 0-1 0-1", false);
        follows("0: 0*n 1: 0*n 0*n", false);
        follows("0: 0*n 0=n 1: 0*n 0*n", true);
        follows("0: 0*2 1*2 2*n 1: 0*n 1*2", true);
        follows("0: 0*2 1*2 2*n 1: 0*n 1*n", false);
    }

    private static void contains(String claims, boolean want) {
        Due.is("contains: " + claims, Told.with(claims).contains(), want);
    }

    private static void contains() {
        contains("0: 1:", true);
        contains("0: 0-1 1:", true);
        contains("0: 1: 0-1", false);
        contains("0: 0-1 2-3 1: 2-3", true);
        contains("0: 0-1 2-3 1: 2-1", false);
        contains("0: 0-1 2-3 1: 0!2", true);
        contains("0: 0-1 2-3 1: 0=2", false);
        contains("0: 0-1 2-3 1: 2-3 2-3", false);
        contains("0: 0-1 1-2 2-n 1: 0*2", true);
        contains("0: 0*1 1*2 1: 0*2", true);
        contains("0: 0*1 1*2 2*n 1: 1*n", true);
        contains("0: 0*1 1*2 2*n 1: 2*1", false);
        contains("0: 0*n 1: 0*1", false);
        contains("0: 0*n 0!n 1: 0-1", false);
        contains("0: 0*n 0!n 1=0 2=0 3=0 4=0 1: 0-n", false);
        contains("0: 0-n 0!n 1=0 2=0 3=0 4=0 1: 0*n", true);
        contains("0: 0-n 1-n 2-n 3*n 3!n 4!0 4!1 4!2 1: 3*4", false);
        contains("0: 0*1 1*0 0!1 1: 1*0", true);
        contains("0: 0-0 1: 0*1", false);
        contains("0: 0-0 1: 0*0", true);
        contains("0: 0-1 1-0 1: 0*1 1*0", true);
        contains("0: 0-1 1-0 1: 0*1 1*0 0*1", false);
        // Where the end is met on the way, the list stops there.
        contains("0: 0-1 1-2 2-1 1: 0*1", true);
        contains("0: 0-1 1-2 2-1 1: 0*2", true);
        contains("0: 0-1 1-2 2-1 1: 0*n", false);
    }

    private static void together(String claims, boolean want) {
        ListHeaps x = Told.with(claims);
        Due.is("together: " + claims, x.together(), want);
        x.swap();
        Due.is("together, swapped: " + claims, x.together(), want);
    }

    private static void together() {
        together("0: 1:", true);
        together("0: 0-1 1: 0-1", false);
        together("0: 0-1 1: 1-0", true);
        together("0: 0-1 1: 1-0 0=1", false);
        together("0: 0=1 1: 0!1", false);
        together("0: 0=1 1: 1=2", true);
        together("0: 0=1 1: 1=2 2!0", false);
        together("0: 0*1 1: 0*1", true);
        together("0: 0*1 1: 0*1 0!1", false);
        together("0: 0*1 0!1 1: 0-2", false);
        together("0: 0*1 1: 0-2", true);
        together("0: 0*1 0!1 1: 1*0", true);
        together("0: 0-1 1-2 2-3 1: 3-4 4-n", true);
        together("0: 0-1 1-2 2-3 1: 3-4 4-n 2-n", false);
        together("0: 0!0 1:", false);
        together("0: 0-1 1: 0=n", false);
        together("0: 0*1 1: 0=n", true);
        together("0: 0*n 1*n 2*n 1: 2*n 3*n 4*n", true);
        together("0: 0-n 1-n 2-n 3-n 4-n 1: 0*n", false);
        together("0: 0-n 1-n 2-n 3-n 4-n 1: n*n", true);
    }

    private static void claimThatCannotBe() {
        ListHeaps x = Told.with("0: 0-1 0-2 1: 3!3");
        Due.is("no model: possible", x.possible(0), false);
        Due.is("no model: divisions", x.divisions(0), 0);
        Due.is("no model: held", x.held(0, 5), true);
        Due.is("no model: reaches", x.reaches(0, 5, 4), true);
        Due.is("no model: follows", x.follows(), true);
        Due.is("no model: contains", x.contains(), true);
        Due.is("no model: together", x.together(), false);
        x.clear(0);
        Due.is("from a model to none: follows", x.follows(), false);
        Due.is("from a model to none: contains", x.contains(), false);
        Due.is("a model and none: together", x.together(), false);
    }

    private static void questionsChangeNothing() {
        ListHeaps x = Told.with("0: 0*1 1*2 2-3 0!4 1: 0*2 2-3");
        for (int n = 0; n < 2; n++) {
            Due.is("again: follows", x.follows(), true);
            Due.is("again: contains", x.contains(), true);
            Due.is("again: together", x.together(), false);
            Due.is("again: least", x.least(0), 1);
            Due.is("again: most", x.most(0), ListHeaps.NONE);
            Due.is("again: held", x.held(0, 2), true);
            Due.is("again: reaches", x.reaches(0, 0, 3), true);
            Due.is("again: neverSame", x.neverSame(0, 0, 4), true);
            Due.is("again: alwaysSame", x.alwaysSame(0, 0, 1), false);
            Due.is("again: possible", x.possible(0), true);
        }
        Due.is("what claim 0 has", x.clear(0), 4);
        Due.is("what claim 1 has", x.clear(1), 2);
    }
}
