import java.util.List;
import java.util.function.ToIntFunction;

/** The sentences under "Terms", and the one on 512 calls: one test for each case that they name. */
public final class TermsTest {
    private static final int[] NO_CLAIM = {-1, 2, 3, 256, 1 << 16, Integer.MIN_VALUE, Integer.MAX_VALUE};
    private static final int[] NO_TERM = {-1, 6, 7, 256, 1 << 16, Integer.MIN_VALUE, Integer.MAX_VALUE};

    // Claims of every kind: empty, full, with and without a model.
    private static final List<String> STATES = List.of(
        "",
        "0: 0=1 2!3 0-2 3*n 1: 4!n 4*0",
        "0: 1: 0!1 0-1",
        "0: 0!0 1: 0-1 0-2",
        "0: 0-1 0-1 1: 1=2 1!2",
        "0: 0=0 1=1 2=2 3=3 4=4 n=n 0!1 0!2 1: 3!4 3!4 3!4 3!4 3!4 3!4 3!4 3!4",
        "0: 0*1 1*2 2*3 3*4 4*n n*n 1: 0-n 1-n 2-n 3-n 4-n n*0",
        "0: 0!n 1!n 2!n 3!n 4!n 0!1 0!2 0!3 0*1 1*2 2*3 3*4 4*n n*n"
            + " 1: 0=1 0=2 0=3 0!4 0=0 1=1 2=2 3=3 0-4 1*2 1*3 2*3 4*n n*n");

    public static void main(String[] args) {
        cellsHaveDifferentPlaces();
        nilIsNoPlace();
        placesWithoutCell();
        fiveStandsForNil();
        cellIsExactlyOne();
        emptyList();
        listWithCells();
        listGoesThroughNoPlaceTwice();
        withoutParts();
        twoClaims();
        wrongClaim();
        wrongTerm();
        wrongArgumentBeforeAnythingElse();
        refusedCallsChangeNothing();
        noCallThrows();
        lastOfAllCalls();
        Due.end();
    }

    private static ListHeaps with(String claims) {
        return Told.with(claims);
    }

    // "A HEAP is a finite set of CELLS with different PLACES"; "each apart from all others"
    private static void cellsHaveDifferentPlaces() {
        Due.is("two cells at a place", with("0-1 0-1").possible(0), false);
        Due.is("two cells at a place with two names", with("0-n 1-n 0=1").possible(0), false);
        Due.is("two cells: two places", with("0-n 1-n").neverSame(0, 0, 1), true);
        Due.is("two cells may hold the same", with("0-2 1-2").possible(0), true);
        Due.is("a cell and a list's cell at a place", with("0-1 0*2 0!2").possible(0), false);
        Due.is("two lists' cells at a place", with("0*1 0*2 0!1 0!2").possible(0), false);
        Due.is("a union of heaps that are not apart", with("0: 0-1 1: 0-1").together(), false);
    }

    // "each of which holds a place or NIL (which is no place)"; "(which is not NIL)"
    private static void nilIsNoPlace() {
        Due.is("a cell holds NIL", with("0-n").possible(0), true);
        Due.is("a cell holds its own place", with("0-0").possible(0), true);
        Due.is("a cell holds a place without cell", with("0-1 1!0 1!n").most(0), 1);
        Due.is("no cell at NIL", with("n-0").possible(0), false);
        Due.is("no cell at NIL that holds NIL", with("n-n").possible(0), false);
        Due.is("no cell at a name for NIL", with("3-0 3=n").possible(0), false);
        Due.is("a list with cells does not start at NIL", with("n*0 0!n").possible(0), false);
        Due.is("nor at a name for NIL", with("1*0 1=n 0!n").possible(0), false);
        Due.is("and does not go on from NIL", with("0: 0-n 1!n 1!0 1: 0*1").contains(), false);
    }

    // "a MEANING gives each of them a place (also one without cell) or NIL"
    private static void placesWithoutCell() {
        ListHeaps x = with("0!n 1!n 2!n 3!n 4!n 0!1 2!3 3!4");
        Due.is("names for places, no cell: possible", x.possible(0), true);
        Due.is("names for places, no cell: most", x.most(0), 0);
        // The names mean five places, or four and NIL, or four, or three and NIL: 1 + 5 + 2 + 8.
        Due.is("names for different places", with("0!1 0!2 0!3 0!4 1!2 1!3 1!4 2!3").divisions(0), 16);
        Due.is("all names for NIL", with("0=n 1=n 2=n 3=n 4=n").divisions(0), 1);
        Due.is("a list may end at a place without cell", with("0*1 0!1 1!n").held(0, 1), false);
    }

    // "5 stands for NIL itself"
    private static void fiveStandsForNil() {
        for (int a = 0; a < 5; a++) {
            ListHeaps x = new ListHeaps();
            Due.is("a name may mean NIL: always", x.alwaysSame(0, a, 5), false);
            Due.is("a name may mean NIL: never", x.neverSame(0, a, 5), false);
            x.same(0, a, 5);
            Due.is("same as 5 is NIL", x.cell(0, a, a), 1);
            Due.is("which has no cell", x.possible(0), false);
        }
        ListHeaps x = new ListHeaps();
        Due.is("5 is 5: always", x.alwaysSame(1, 5, 5), true);
        Due.is("5 is 5: never", x.neverSame(1, 5, 5), false);
        Due.is("5 is not held", x.held(1, 5), false);
    }

    // "exactly one cell, at the place that a means .., and that it holds what b means"
    private static void cellIsExactlyOne() {
        Due.is("a cell: least", with("0-1").least(0), 1);
        Due.is("a cell: most", with("0-1").most(0), 1);
        Due.is("a cell to itself: least", with("0-0").least(0), 1);
        Due.is("a cell to itself: most", with("0-0").most(0), 1);
        Due.is("two cells are no cell", with("0: 0-1 1-2 1: 0-1").follows(), false);
        Due.is("no cell is no cell", with("0: 1: 0-1").follows(), false);
        Due.is("it holds what b means", with("0: 0-1 1=2 1: 0-2").follows(), true);
        Due.is("and nothing else", with("0: 0-1 1!2 1: 0-2").contains(), false);
        Due.is("it is at the place that a means", with("0: 0-1 0=2 1: 2-1").follows(), true);
        Due.is("and nowhere else", with("0: 0-1 0!2 1: 2-1").contains(), false);
    }

    // "a LIST from a to b says that either a and b mean the same and the heap is empty"
    private static void emptyList() {
        for (int a = 0; a < 6; a++) {
            ListHeaps x = new ListHeaps();
            x.list(0, a, a);
            Due.is("a list from a to a: least", x.least(0), 0);
            Due.is("a list from a to a: most", x.most(0), 0);
            Due.is("a list from a to a: divisions", x.divisions(0), 203);
            Due.is("a list from a to a is the empty heap", x.follows(), true);
            x.swap();
            Due.is("the empty heap is a list from a to a", x.follows(), true);
        }
        Due.is("a list between names of one place", with("0*1 0=1").most(0), 0);
        Due.is("a list from NIL to a name for NIL", with("n*1").most(0), 0);
        Due.is("a list from a name for NIL to NIL", with("1*n 1=n").most(0), 0);
        Due.is("lists that are empty are apart", with("0*1 0*1 0*1 1*0 1*0 1*0").possible(0), true);
        Due.is("and empty", with("0: 0*1 0*1 1: 0=1").follows(), true);
        Due.is("a cell to itself is no empty list", with("0: 0-0 1: 0*0").follows(), false);
        Due.is("cells in a circle are no empty list", with("0: 0-1 1-0 1: 0*0").follows(), false);
        Due.is("a place with a cell leaves an empty list", with("0-1 0*2").alwaysSame(0, 0, 2), true);
    }

    // "or they do not, and the heap is the union of a heap of one cell, at the place that a means,
    // and, apart from it, one for which a list from what that cell holds to b is so"
    private static void listWithCells() {
        Due.is("different ends: at least one cell", with("0*1 0!1").least(0), 1);
        Due.is("different ends: ever more cells", with("0*1 0!1").most(0), ListHeaps.NONE);
        Due.is("the empty heap is no list with cells", with("0: 0!1 1: 0*1").follows(), false);
        Due.is("a list of one cell", with("0: 0-1 0!1 1: 0*1").follows(), true);
        Due.is("a list of two cells", with("0: 0-1 1-2 0!2 1!2 1: 0*2").follows(), true);
        Due.is("a list of five cells", with("0: 0-1 1-2 2-3 3-4 4-n 1: 0*n").follows(), true);
        Due.is("its first cell is at a", with("0*1 0!1").held(0, 0), true);
        Due.is("its last cell may not be at b", with("0*1 0!1").held(0, 1), false);
        Due.is("a list that stops too early", with("0: 0-1 1-2 1: 0*3").contains(), false);
        Due.is("a list that is not all", with("0: 0-1 1-2 0!2 1!2 0!1 1: 0*1").follows(), false);
        Due.is("lists may be longer than a cell", with("0: 0*n 0!n 1: 0-n").follows(), false);
        Due.is("also where no name can be inside",
            with("0: 0*n 0!n 1=0 2=0 3=0 4=0 1: 0-n").contains(), false);
    }

    // "apart from it": also from the cells that come before, and not beyond b
    private static void listGoesThroughNoPlaceTwice() {
        Due.is("a circle on the way", with("0: 0-1 1-1 2!0 2!1 1: 0*2").contains(), false);
        Due.is("a circle of all names", with("0: 0-1 1-2 2-3 3-4 4-0 1: 0*n").contains(), false);
        Due.is("almost a circle", with("0: 0-1 1-2 2-3 3-4 4-0 1: 1*0 0-1").follows(), true);
        Due.is("back to the start is past the end", with("0: 0-1 1-0 0!1 1: 0*1").follows(), false);
        Due.is("two lists in a circle", with("0: 0-1 1-0 1: 0*1 1*0").follows(), true);
        Due.is("joined lists may meet the end twice", with("0: 0*1 1*2 1: 0*2").follows(), false);
        Due.is("but not if the end has a cell", with("0: 0*1 1*2 2-3 1: 0*2 2-3").follows(), true);
        Due.is("nor if the end is NIL", with("0: 0*1 1*n 1: 0*n").follows(), true);
    }

    // "(without parts: the heap is empty)"
    private static void withoutParts() {
        for (String claim : List.of("", "0=1", "0!1", "0!n 1!n 2!n 3!n 4!n", "0=n 1=n 2=n 3=n 4=n")) {
            ListHeaps x = with(claim);
            Due.is("without parts, least: " + claim, x.least(0), 0);
            Due.is("without parts, most: " + claim, x.most(0), 0);
            for (int a = 0; a < 6; a++) {
                Due.is("without parts, held " + a + ": " + claim, x.held(0, a), false);
            }
            Due.is("without parts, reaches by cells: " + claim, x.reaches(0, 2, 3),
                claim.startsWith("0=n"));
        }
        Due.is("only of the empty heap", with("0: 0-1 1:").follows(), false);
        Due.is("also where cells can, but need not be", with("0: 0*1 1:").follows(), false);
        Due.is("the empty heap is in each heap", with("0: 0-1 2*3 1:").contains(), true);
        Due.is("and apart from each", with("0: 0-1 2*3 1:").together(), true);
        Due.is("it has no cell in it", with("0: 1: 0-1").contains(), false);
        Due.is("its conditions still count", with("0: 0-1 1: 0=n").contains(), false);
    }

    // "There are two claims, 0 and 1."
    private static void twoClaims() {
        for (int s = 0; s < 2; s++) {
            ListHeaps x = new ListHeaps();
            Due.is("first condition of claim " + s, x.other(s, 0, 0), 1);
            Due.is("first part of claim " + s, x.cell(s, 0, 0), 1);
            Due.is("of the other: condition", x.same(1 - s, 0, 0), 1);
            Due.is("of the other: part", x.list(1 - s, 0, 0), 1);
            Due.is("claim " + s, x.possible(s), false);
            Due.is("the other", x.possible(1 - s), true);
            Due.is("the other's divisions", x.divisions(1 - s), 203);
            Due.is("clear of the other", x.clear(1 - s), 2);
            Due.is("clear", x.clear(s), 2);
        }
    }

    // "In all calls with a claim s, one that is not 0 or 1 .. answers BAD_ARG (or false)"
    private static void wrongClaim() {
        for (String state : STATES) {
            ListHeaps x = with(state);
            for (int s : NO_CLAIM) {
                String told = " of claim " + s + " with " + state;
                claimRefused(x, s, told);
                termsRefused(x, s, 0, 0, told);
                termsRefused(x, s, 5, 4, told);
            }
        }
    }

    private static void claimRefused(ListHeaps x, int s, String told) {
        Due.is("drop condition" + told, x.drop(s, 0), ListHeaps.BAD_ARG);
        Due.is("drop part" + told, x.drop(s, 1), ListHeaps.BAD_ARG);
        Due.is("clear" + told, x.clear(s), ListHeaps.BAD_ARG);
        Due.is("possible" + told, x.possible(s), false);
        Due.is("divisions" + told, x.divisions(s), ListHeaps.BAD_ARG);
        Due.is("least" + told, x.least(s), ListHeaps.BAD_ARG);
        Due.is("most" + told, x.most(s), ListHeaps.BAD_ARG);
        Due.is("held" + told, x.held(s, 0), false);
    }

    private static void termsRefused(ListHeaps x, int s, int a, int b, String with) {
        String told = " " + s + " " + a + " " + b + with;
        Due.is("same" + told, x.same(s, a, b), ListHeaps.BAD_ARG);
        Due.is("other" + told, x.other(s, a, b), ListHeaps.BAD_ARG);
        Due.is("cell" + told, x.cell(s, a, b), ListHeaps.BAD_ARG);
        Due.is("list" + told, x.list(s, a, b), ListHeaps.BAD_ARG);
        Due.is("alwaysSame" + told, x.alwaysSame(s, a, b), false);
        Due.is("neverSame" + told, x.neverSame(s, a, b), false);
        Due.is("reaches" + told, x.reaches(s, a, b), false);
    }

    // "and with a, b not 0 to 5, answers BAD_ARG (or false)"
    private static void wrongTerm() {
        for (String state : STATES) {
            for (int s = 0; s < 2; s++) {
                ListHeaps x = with(state);
                for (int wrong : NO_TERM) {
                    String told = " with " + state;
                    termsRefused(x, s, wrong, 0, told);
                    termsRefused(x, s, 0, wrong, told);
                    termsRefused(x, s, wrong, 5, told);
                    termsRefused(x, s, 5, wrong, told);
                    termsRefused(x, s, wrong, wrong, told);
                    Due.is("held " + s + " " + wrong + told, x.held(s, wrong), false);
                }
                ListHeaps good = with(state);
                for (int a = 0; a < 6; a++) {
                    Due.is("0 to 5 are no wrong terms", good.alwaysSame(s, a, a), true);
                }
            }
        }
    }

    // "before anything else": before FULL and NONE, and before what all models have
    private static void wrongArgumentBeforeAnythingElse() {
        ListHeaps full = with("0: 0=0 0=0 0=0 0=0 0=0 0=0 0=0 0=0 0*0 0*0 0*0 0*0 0*0 0*0"
            + " 1: 0=0 0=0 0=0 0=0 0=0 0=0 0=0 0=0 0*0 0*0 0*0 0*0 0*0 0*0");
        termsRefused(full, -1, 0, 0, ", both claims full");
        termsRefused(full, 2, 0, 0, ", both claims full");
        for (int s = 0; s < 2; s++) {
            termsRefused(full, s, 6, 0, ", both claims full");
            termsRefused(full, s, 0, 6, ", both claims full");
            termsRefused(full, s, -1, 0, ", both claims full");
            termsRefused(full, s, 0, -1, ", both claims full");
            Due.is("with right ones: same", full.same(s, 0, 0), ListHeaps.FULL);
            Due.is("with right ones: list", full.list(s, 0, 0), ListHeaps.FULL);
        }
        ListHeaps empty = new ListHeaps();
        claimRefused(empty, 2, ", both claims empty");
        claimRefused(empty, -1, ", both claims empty");
        Due.is("no claim, no what", empty.drop(2, 2), ListHeaps.BAD_ARG);
        Due.is("a claim, but no what", empty.drop(0, 2), ListHeaps.BAD_ARG);
        ListHeaps none = with("0: 0!0 1: 0!0");
        claimRefused(none, 2, ", without models");
        claimRefused(none, -1, ", without models");
        for (int s = -1; s < 3; s++) {
            termsRefused(none, s, 6, 0, ", without models");
            termsRefused(none, s, 0, -1, ", without models");
            Due.is("held of no term, without models", none.held(s, 6), false);
            Due.is("held of no term, without models", none.held(s, -1), false);
        }
    }

    // "A refused call answers the code named and changes nothing."
    private static void refusedCallsChangeNothing() {
        List<ToIntFunction<ListHeaps>> refused = List.of(
            x -> x.same(2, 0, 1), x -> x.same(-1, 0, 1), x -> x.same(0, 6, 1), x -> x.same(1, 0, -1),
            x -> x.other(2, 0, 1), x -> x.other(-1, 0, 1), x -> x.other(0, -1, 1), x -> x.other(1, 0, 6),
            x -> x.cell(2, 0, 1), x -> x.cell(-1, 0, 1), x -> x.cell(0, 6, 1), x -> x.cell(1, 0, -1),
            x -> x.list(2, 0, 1), x -> x.list(-1, 0, 1), x -> x.list(0, -1, 1), x -> x.list(1, 0, 6),
            x -> x.drop(2, 0), x -> x.drop(-1, 1), x -> x.drop(0, 2), x -> x.drop(1, -1),
            x -> x.clear(2), x -> x.clear(-1), x -> x.divisions(2), x -> x.least(-1), x -> x.most(2));
        for (String state : STATES) {
            String want = Told.everything(with(state));
            for (int i = 0; i < refused.size(); i++) {
                ListHeaps x = with(state);
                String told = "refused call " + i + " with " + state;
                Due.is(told, refused.get(i).applyAsInt(x), ListHeaps.BAD_ARG);
                Due.is(told + " changes nothing", Told.everything(x), want);
            }
        }
        fullChangesNothing();
        noneChangesNothing();
    }

    private static void fullChangesNothing() {
        List<ToIntFunction<ListHeaps>> conditions = List.of(
            x -> x.same(0, 1, 2), x -> x.other(0, 1, 2), x -> x.same(1, 1, 2), x -> x.other(1, 1, 2));
        List<ToIntFunction<ListHeaps>> parts = List.of(
            x -> x.cell(0, 1, 2), x -> x.list(0, 1, 2), x -> x.cell(1, 1, 2), x -> x.list(1, 1, 2));
        answersAndChangesNothing(conditions, ListHeaps.FULL, "0: 3!4 0!n 0!n 0!n 0!n 0!n 0!n 0!n 0-1"
            + " 1: 0=n 0=n 0=n 0=n 0=n 0=n 0=n 0=4 2*3");
        answersAndChangesNothing(parts, ListHeaps.FULL, "0: 0!n 0*n 3*n 3*3 3*3 3*3 3*4"
            + " 1: 0=1 4-2 4*4 4*4 4*4 4*4 3-n");
    }

    private static void noneChangesNothing() {
        answersAndChangesNothing(List.of(x -> x.drop(0, 0), x -> x.drop(1, 1)), ListHeaps.NONE,
            "0: 0-1 2*3 1: 0=1 2!3");
        answersAndChangesNothing(List.of(x -> x.drop(0, 1), x -> x.drop(1, 0)), ListHeaps.NONE,
            "0: 0=1 2!3 1: 0-1 2*3");
        answersAndChangesNothing(List.of(x -> x.drop(0, 0), x -> x.drop(0, 1), x -> x.drop(1, 0),
            x -> x.drop(1, 1)), ListHeaps.NONE, "");
    }

    private static void answersAndChangesNothing(List<ToIntFunction<ListHeaps>> calls, int code,
            String state) {
        String want = Told.everything(with(state));
        for (int i = 0; i < calls.size(); i++) {
            ListHeaps x = with(state);
            String told = "call " + i + " that answers " + code + " with " + state;
            Due.is(told, calls.get(i).applyAsInt(x), code);
            Due.is(told + " again", calls.get(i).applyAsInt(x), code);
            Due.is(told + " changes nothing", Told.everything(x), want);
        }
    }

    // "No call ever throws.": a call that throws ends this test with an error
    private static void noCallThrows() {
        int[] any = {Integer.MIN_VALUE, -7, -1, 0, 3, 5, 6, 7, 1 << 16, Integer.MAX_VALUE};
        for (String state : STATES) {
            for (int s : any) {
                for (int a : any) {
                    ListHeaps x = with(state);
                    for (int b : any) {
                        callAll(x, s, a, b);
                    }
                }
            }
        }
        Due.is("all calls came back", true, true);
    }

    private static void callAll(ListHeaps x, int s, int a, int b) {
        x.alwaysSame(s, a, b);
        x.neverSame(s, a, b);
        x.reaches(s, a, b);
        x.held(s, b);
        x.possible(s);
        x.divisions(s);
        x.least(s);
        x.most(s);
        x.same(s, a, b);
        x.other(s, a, b);
        x.cell(s, a, b);
        x.list(s, a, b);
        x.follows();
        x.contains();
        x.together();
        x.swap();
        x.drop(s, b);
        x.drop(b, s);
        x.clear(a);
    }

    // "An object is used for at most 512 calls after it has been made"
    private static void lastOfAllCalls() {
        ListHeaps x = new ListHeaps();
        for (int call = 1; call <= 504; call += 8) {
            int name = call / 8 % 5;
            Due.is("call " + call + ": same", x.same(0, name, 5), 1);
            Due.is("call " + call + ": cell", x.cell(1, name, 5), 1);
            Due.is("call " + call + ": together", x.together(), false);
            x.swap();
            Due.is("call " + call + ": drop", x.drop(0, 1), 0);
            Due.is("call " + call + ": clear", x.clear(1), 1);
            Due.is("call " + call + ": follows", x.follows(), true);
            Due.is("call " + call + ": divisions", x.divisions(1), 203);
        }
        for (int call = 505; call <= 511; call++) {
            Due.is("call " + call + ": list", x.list(0, 0, 1), call < 511 ? call - 504 : ListHeaps.FULL);
        }
        Due.is("call 512: clear", x.clear(0), 6);
    }
}
