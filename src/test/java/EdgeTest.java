import java.util.List;

/** The sentences of promises 1 to 19 that name an edge: empty, full, none, no model, no step. */
public final class EdgeTest {
    // Claims that have no model, each for a reason of its own.
    private static final List<String> WITHOUT_MODEL = List.of(
        "0!0", "n!n", "0=1 0!1", "0=1 1=2 2=3 3=4 4=n 0!n", "n-0", "n-n", "0-1 0=n", "0-0 0-0",
        "0-1 2-3 0=2", "0*1 0!1 0-2", "0*1 0*1 0!1", "0*1 0*2 0!1 0!2", "n*0 0!n", "0*1 0=n 1!n",
        "0-n 1-n 2-n 3-n 4-n n-n", "0-0 1-1 2-2 3-3 4-4 0-0", "0-n 1-n 2-n 3-n 4*0 4=1",
        "0*n 1*n 0=1 1!n");

    public static void main(String[] args) {
        newObject();
        fullConditions();
        fullParts();
        drop();
        clear();
        swap();
        possible();
        divisions();
        alwaysAndNeverSame();
        held();
        reaches();
        least();
        most();
        allModelsOfNone();
        noModelOfClaimOne();
        follows();
        contains();
        together();
        Due.end();
    }

    private static ListHeaps with(String claims) {
        return Told.with(claims);
    }

    // Promise 1: "Both claims have no condition and no part."
    private static void newObject() {
        for (int s = 0; s < 2; s++) {
            Due.is("new: conditions", new ListHeaps().drop(s, 0), ListHeaps.NONE);
            Due.is("new: parts", new ListHeaps().drop(s, 1), ListHeaps.NONE);
            Due.is("new: both", new ListHeaps().clear(s), 0);
            Due.is("new: possible", new ListHeaps().possible(s), true);
            Due.is("new: divisions", new ListHeaps().divisions(s), 203);
            Due.is("new: least", new ListHeaps().least(s), 0);
            Due.is("new: most", new ListHeaps().most(s), 0);
            Due.is("new: first same", new ListHeaps().same(s, 0, 1), 1);
            Due.is("new: first other", new ListHeaps().other(s, 0, 1), 1);
            Due.is("new: first cell", new ListHeaps().cell(s, 0, 1), 1);
            Due.is("new: first list", new ListHeaps().list(s, 0, 1), 1);
        }
        Due.is("new: follows", new ListHeaps().follows(), true);
        Due.is("new: contains", new ListHeaps().contains(), true);
        Due.is("new: together", new ListHeaps().together(), true);
        ListHeaps used = with("0: 0!0 0-0 1: 1!1 1-1");
        Due.is("new: nothing of an older one", Told.everything(new ListHeaps()),
            Told.everything(with("0: 1:")));
        Due.is("new: the older one is as it was", used.clear(0) + used.clear(1), 4);
    }

    // Promises 2 and 3: "FULL if it has 8. Otherwise how many it has."
    private static void fullConditions() {
        for (int s = 0; s < 2; s++) {
            for (int kinds = 0; kinds < 256; kinds += 51) {
                ListHeaps x = new ListHeaps();
                for (int i = 0; i < 8; i++) {
                    boolean same = (kinds >> i & 1) == 1;
                    int has = same ? x.same(s, 0, 1) : x.other(s, 2, 5);
                    Due.is("condition " + (i + 1) + " of kinds " + kinds, has, i + 1);
                }
                String with = " with 8 conditions of kinds " + kinds;
                Due.is("same" + with, x.same(s, 3, 4), ListHeaps.FULL);
                Due.is("other" + with, x.other(s, 3, 4), ListHeaps.FULL);
                Due.is("the ninth is not there" + with, x.alwaysSame(s, 3, 4), false);
                Due.is("the ninth is not there" + with, x.neverSame(s, 3, 4), false);
                Due.is("the eight are there" + with, x.drop(s, 0), 7);
                Due.is("an eighth again" + with, x.same(s, 3, 4), 8);
                Due.is("which counts" + with, x.alwaysSame(s, 3, 4), true);
                Due.is("full again" + with, x.other(s, 0, 0), ListHeaps.FULL);
                Due.is("the other claim is not full" + with, x.same(1 - s, 0, 1), 1);
                Due.is("nor are the parts" + with, x.cell(s, 0, 1), 1);
            }
        }
        eachOfTheEightCounts();
        sameConditionTwice();
    }

    private static void eachOfTheEightCounts() {
        for (int at = 0; at < 8; at++) {
            ListHeaps same = new ListHeaps();
            ListHeaps other = new ListHeaps();
            for (int i = 0; i < 8; i++) {
                same.same(1, i == at ? 3 : 0, i == at ? 4 : 0);
                other.other(1, i == at ? 3 : 0, i == at ? 4 : 5);
            }
            Due.is("same as condition " + (at + 1), same.alwaysSame(1, 3, 4), true);
            Due.is("other as condition " + (at + 1), other.neverSame(1, 3, 4), true);
        }
    }

    private static void sameConditionTwice() {
        ListHeaps x = with("0=1 0=1");
        Due.is("the same condition again is one more", x.same(0, 0, 1), 3);
        Due.is("turned too", x.same(0, 1, 0), 4);
        Due.is("one of the same term too", x.same(0, 2, 2), 5);
        Due.is("one against it too", x.other(0, 0, 1), 6);
        Due.is("they cannot all be", x.possible(0), false);
        Due.is("in a claim that cannot be, one more", x.other(0, 0, 1), 7);
    }

    // Promises 4 and 5: "FULL if it has 6 parts. Otherwise how many it has."
    private static void fullParts() {
        for (int s = 0; s < 2; s++) {
            for (int kinds = 0; kinds < 64; kinds += 21) {
                ListHeaps x = new ListHeaps();
                for (int i = 0; i < 6; i++) {
                    boolean cell = (kinds >> i & 1) == 1;
                    int has = cell ? x.cell(s, 0, 1) : x.list(s, 2, 2);
                    Due.is("part " + (i + 1) + " of kinds " + kinds, has, i + 1);
                }
                String with = " with 6 parts of kinds " + kinds;
                Due.is("cell" + with, x.cell(s, 3, 4), ListHeaps.FULL);
                Due.is("list" + with, x.list(s, 3, 4), ListHeaps.FULL);
                Due.is("the six are there" + with, x.drop(s, 1), 5);
                Due.is("a sixth again" + with, x.list(s, 3, 4), 6);
                Due.is("which counts" + with, x.reaches(s, 3, 4), true);
                Due.is("full again" + with, x.cell(s, 0, 1), ListHeaps.FULL);
                Due.is("the other claim is not full" + with, x.cell(1 - s, 0, 1), 1);
                Due.is("nor are the conditions" + with, x.other(s, 0, 1), 1);
            }
        }
        Due.is("a seventh cell is not there", seventh(true).held(0, 3), false);
        Due.is("a seventh list is not there", seventh(false).reaches(0, 3, 4), false);
        for (int at = 0; at < 6; at++) {
            ListHeaps cells = new ListHeaps();
            ListHeaps lists = new ListHeaps();
            for (int i = 0; i < 6; i++) {
                int has = i == at ? cells.cell(1, 3, 4) : cells.list(1, 0, 0);
                Due.is("how many", has, i + 1);
                lists.list(1, i == at ? 3 : 0, i == at ? 4 : 0);
            }
            Due.is("a cell as part " + (at + 1), cells.held(1, 3), true);
            Due.is("a list as part " + (at + 1), lists.reaches(1, 3, 4), true);
        }
    }

    private static ListHeaps seventh(boolean cell) {
        ListHeaps x = with("0*0 0*0 0*0 0*0 0*0 0*0");
        Due.is("a seventh part", cell ? x.cell(0, 3, 4) : x.list(0, 3, 4), ListHeaps.FULL);
        return x;
    }

    // Promise 6: "Takes the last condition (what 0) or part (what 1) of claim s away. Tested in this
    // order: what not 0 or 1 answers BAD_ARG; NONE if there is none. Otherwise how many are left."
    private static void drop() {
        int[] wrong = {-1, 2, 3, 5, 256, 1 << 16, Integer.MIN_VALUE, Integer.MAX_VALUE};
        for (int s = 0; s < 2; s++) {
            ListHeaps x = new ListHeaps();
            for (int what : wrong) {
                Due.is("drop " + what + " where there is none", x.drop(s, what), ListHeaps.BAD_ARG);
            }
            Due.is("drop 0 where there is none", x.drop(s, 0), ListHeaps.NONE);
            Due.is("drop 1 where there is none", x.drop(s, 1), ListHeaps.NONE);
            x.same(s, 0, 1);
            Due.is("a condition is no part", x.drop(s, 1), ListHeaps.NONE);
            x.cell(1 - s, 0, 1);
            Due.is("nor is one of the other claim", x.drop(s, 1), ListHeaps.NONE);
            for (int what : wrong) {
                Due.is("drop " + what + " where there is one", x.drop(s, what), ListHeaps.BAD_ARG);
            }
            Due.is("the only condition", x.drop(s, 0), 0);
            Due.is("then none", x.drop(s, 0), ListHeaps.NONE);
            Due.is("a part is no condition", x.drop(1 - s, 0), ListHeaps.NONE);
            Due.is("the only part", x.drop(1 - s, 1), 0);
            Due.is("then none", x.drop(1 - s, 1), ListHeaps.NONE);
            Due.is("NONE takes nothing below none", x.same(s, 0, 1), 1);
            Due.is("NONE takes nothing below none", x.list(1 - s, 0, 1), 1);
        }
        dropAllOfFullClaim();
        dropTakesTheLast();
    }

    private static void dropAllOfFullClaim() {
        ListHeaps x = with("1: 0!n 1!n 2!n 3!n 4!n 0!1 1!2 2!3 0-1 1-2 2-3 3-4 4-n n*n");
        for (int left = 7; left >= 0; left--) {
            Due.is("conditions left", x.drop(1, 0), left);
        }
        for (int left = 5; left >= 0; left--) {
            Due.is("parts left", x.drop(1, 1), left);
        }
        Due.is("no condition left", x.drop(1, 0), ListHeaps.NONE);
        Due.is("no part left", x.drop(1, 1), ListHeaps.NONE);
        Due.is("nothing left", x.clear(1), 0);
        Due.is("nothing said", x.divisions(1), 203);
    }

    private static void dropTakesTheLast() {
        ListHeaps x = with("0=1 1=2 0-3 4-3");
        Due.is("drop the last condition", x.drop(0, 0), 1);
        Due.is("the first stays", x.alwaysSame(0, 0, 1), true);
        Due.is("the last is gone", x.alwaysSame(0, 1, 2), false);
        Due.is("drop the last part", x.drop(0, 1), 1);
        Due.is("the first stays", x.held(0, 0), true);
        Due.is("the last is gone", x.held(0, 4), false);
        Due.is("one in its place", x.other(0, 1, 2), 2);
        Due.is("counts", x.neverSame(0, 1, 2), true);
        Due.is("one in its place", x.list(0, 4, 3), 2);
        Due.is("counts", x.reaches(0, 4, 3), true);
        Due.is("the one before it is gone", x.held(0, 4), false);
    }

    // Promise 7: "Claim s has no condition and no part from now on. Answers how many of both it had."
    private static void clear() {
        for (int s = 0; s < 2; s++) {
            ListHeaps x = new ListHeaps();
            Due.is("clear of nothing", x.clear(s), 0);
            x.same(s, 0, 1);
            Due.is("clear of a condition", x.clear(s), 1);
            x.list(s, 0, 1);
            Due.is("clear of a part", x.clear(s), 1);
            for (int i = 0; i < 9; i++) {
                x.other(s, 0, 1);
                x.list(s, 0, 1);
                x.cell(1 - s, 0, 1);
            }
            Due.is("clear of all it can have", x.clear(s), 14);
            Due.is("no condition", x.drop(s, 0), ListHeaps.NONE);
            Due.is("no part", x.drop(s, 1), ListHeaps.NONE);
            Due.is("nothing said", x.divisions(s), 203);
            Due.is("no cell", x.most(s), 0);
            Due.is("clear again", x.clear(s), 0);
            Due.is("first condition from now on", x.same(s, 2, 3), 1);
            Due.is("nothing of the old ones", x.divisions(s), 52);
            Due.is("first part from now on", x.cell(s, 2, 5), 1);
            Due.is("nothing of the old ones", x.most(s), 1);
            Due.is("the other claim is as it was", x.clear(1 - s), 6);
        }
        ListHeaps x = with("0!0 0-1 0-1");
        Due.is("clear of what cannot be", x.clear(0), 3);
        Due.is("can be", x.possible(0), true);
    }

    // Promise 8: "Claim 1 becomes what claim 0 is, and claim 0 what claim 1 was."
    private static void swap() {
        String full = "0=1 2=3 4=4 n=n 0!2 1!3 0!4 4!n 0-2 2-0 4*n 1*0 3*2 n*n";
        String some = "1!4 2!4 1-2 4*3";
        List<List<String>> pairs = List.of(List.of("", ""), List.of(full, ""), List.of("", full),
            List.of(full, some), List.of(some, full), List.of(some, ""), List.of("", some),
            List.of(some, some), List.of("0=1", "0-1"), List.of("0-1", "0=1"), List.of("0!0", full));
        for (List<String> pair : pairs) {
            String told = "0: " + pair.get(0) + " 1: " + pair.get(1);
            String turned = "0: " + pair.get(1) + " 1: " + pair.get(0);
            ListHeaps x = with(told);
            x.swap();
            Due.is("swap of " + told, Told.everything(x), Told.everything(with(turned)));
            x = with(told);
            x.swap();
            x.swap();
            Due.is("swap twice of " + told, Told.everything(x), Told.everything(with(told)));
        }
        ListHeaps x = with("0: " + full);
        x.swap();
        Due.is("full conditions go over", x.same(1, 0, 0), ListHeaps.FULL);
        Due.is("full parts go over", x.list(1, 0, 0), ListHeaps.FULL);
        Due.is("room comes back: condition", x.same(0, 3, 4), 1);
        Due.is("room comes back: part", x.cell(0, 3, 4), 1);
        x.swap();
        Due.is("what was added goes over", x.alwaysSame(1, 3, 4), true);
        Due.is("what was added goes over", x.held(1, 3), true);
        Due.is("and nothing else", x.clear(1), 2);
        Due.is("all of the full one came back", x.clear(0), 14);
    }

    // Promise 9: "Whether claim s has a model."
    private static void possible() {
        for (String claim : WITHOUT_MODEL) {
            Due.is("claim 0 possible: " + claim, with("0: " + claim).possible(0), false);
            Due.is("claim 1 beside it: " + claim, with("0: " + claim).possible(1), true);
            Due.is("claim 1 possible: " + claim, with("1: " + claim).possible(1), false);
            Due.is("claim 0 beside it: " + claim, with("1: " + claim).possible(0), true);
        }
        Due.is("the empty claim", with("").possible(0), true);
        Due.is("a cell at each name", with("0-n 1-n 2-n 3-n 4-n n*n").possible(0), true);
        Due.is("a model in one division alone", with("0-1 1-2 2-3 3-4 4-n n*n").possible(0), true);
        Due.is("all the same", with("0=1 1=2 2=3 3=4 4=n 0*1 1*0 2*n n*4 3*0 n*n").possible(0), true);
    }

    // Promise 10: "The number of ways to say which of 0 to 5 mean the same .. for which claim s has a
    // model."
    private static void divisions() {
        Due.is("no way", with("0!0").divisions(0), 0);
        Due.is("one way: all the same", with("0=1 1=2 2=3 3=4 4=n").divisions(0), 1);
        Due.is("one way: all different", with("0-0 1-1 2-2 3-3 4-4").divisions(0), 1);
        Due.is("all ways", with("").divisions(0), 203);
        Due.is("all ways, with parts", with("0*0 n*n").divisions(0), 203);
        for (int a = 0; a < 6; a++) {
            for (int b = 0; b < 6; b++) {
                ListHeaps x = new ListHeaps();
                x.same(0, a, b);
                x.other(1, a, b);
                Due.is("divisions: " + a + " same as " + b, x.divisions(0), a == b ? 203 : 52);
                Due.is("divisions: " + a + " other than " + b, x.divisions(1), a == b ? 0 : 151);
                x = new ListHeaps();
                x.cell(0, a, b);
                x.list(1, a, b);
                Due.is("divisions: cell " + a + " " + b, x.divisions(0), a == 5 ? 0 : 151);
                // A list is empty, or does not start at NIL.
                int lists = a == b ? 203 : a == 5 ? 52 : b == 5 ? 203 : 166;
                Due.is("divisions: list " + a + " " + b, x.divisions(1), lists);
            }
        }
        for (String claim : WITHOUT_MODEL) {
            Due.is("divisions: " + claim, with("1: " + claim).divisions(1), 0);
        }
    }

    // Promises 11 and 12: "in all models", "in no model"
    private static void alwaysAndNeverSame() {
        for (int a = 0; a < 6; a++) {
            for (int b = 0; b < 6; b++) {
                ListHeaps x = new ListHeaps();
                Due.is("alwaysSame of nothing said", x.alwaysSame(0, a, b), a == b);
                Due.is("neverSame of nothing said", x.neverSame(0, a, b), false);
                x.same(0, a, b);
                x.other(1, a, b);
                Due.is("alwaysSame of same", x.alwaysSame(0, a, b), true);
                Due.is("neverSame of same", x.neverSame(0, a, b), false);
                Due.is("alwaysSame of other", x.alwaysSame(1, a, b), a == b);
                Due.is("neverSame of other", x.neverSame(1, a, b), true);
            }
        }
        ListHeaps last = with("0=1 1=2 2=3 3=4 4=n");
        Due.is("where one division is left: always", last.alwaysSame(0, 0, 4), true);
        Due.is("where one division is left: never", last.neverSame(0, 0, 4), false);
        ListHeaps first = with("0-1 1-2 2-3 3-4 4-n");
        Due.is("where all are different: always", first.alwaysSame(0, 0, 4), false);
        Due.is("where all are different: never", first.neverSame(0, 0, 4), true);
        Due.is("where the parts alone tell", with("0*1 0-2").alwaysSame(0, 1, 0), true);
        Due.is("where the parts alone tell", with("0-2 1-3").neverSame(0, 0, 1), true);
    }

    // Promise 13: "in all models .. the heap has a cell at the place that a means"
    private static void held() {
        for (int a = 0; a < 5; a++) {
            ListHeaps x = new ListHeaps();
            Due.is("held by nothing", x.held(0, a), false);
            x.list(0, a, 5);
            Due.is("held by a list that may be empty", x.held(0, a), false);
            x.other(0, a, 5);
            Due.is("held by a list that is not", x.held(0, a), true);
            x.cell(1, a, a);
            Due.is("held by a cell", x.held(1, a), true);
            Due.is("a cell elsewhere", x.held(1, (a + 1) % 5), false);
        }
        Due.is("NIL is not held", with("0-n 1-n 2-n 3-n 4-n").held(0, 5), false);
        Due.is("NIL at the end of a list", with("0*n 0!n").held(0, 5), false);
        Due.is("a name for NIL", with("0-n 1=n").held(0, 1), false);
        Due.is("inside a list perhaps", with("0*n 0!n 1!n").held(0, 1), false);
        Due.is("in the one list or in the other", with("0*1 1*2 0!2").held(0, 0), true);
        Due.is("in the other list alone", with("0*1 1*2 1!2").held(0, 0), true);
        Due.is("in no list perhaps", with("0*1 2*3 2!3").held(0, 0), false);
        Due.is("in a circle", with("0*1 1*0 0!1").held(0, 1), true);
    }

    // Promise 14: "any number of times (also none)"
    private static void reaches() {
        for (int a = 0; a < 6; a++) {
            Due.is("no step, no cell", new ListHeaps().reaches(0, a, a), true);
            Due.is("no step, no cell, in claim 1", new ListHeaps().reaches(1, a, a), true);
            Due.is("no step, though there are cells", with("0-1 1-2 2*n").reaches(0, a, a), true);
            for (int b = 0; b < 6; b++) {
                ListHeaps x = new ListHeaps();
                Due.is("one step, no cell", x.reaches(0, a, b), a == b);
                x.same(0, a, b);
                Due.is("no step to another name for it", x.reaches(0, a, b), true);
                x.cell(1, a, b);
                Due.is("one step", x.reaches(1, a, b), true);
                Due.is("no step back", x.reaches(1, b, a), a == b || a == 5);
                x = new ListHeaps();
                x.list(1, a, b);
                Due.is("a list, of whatever length", x.reaches(1, a, b), true);
            }
        }
        ListHeaps chain = with("0-1 1-2 2-3 3-4 4-n");
        ListHeaps ring = with("0-1 1-2 2-3 3-4 4-0");
        for (int a = 0; a < 5; a++) {
            for (int b = 0; b < 5; b++) {
                Due.is("in a row from " + a + " to " + b, chain.reaches(0, a, b), a <= b);
                Due.is("in a ring from " + a + " to " + b, ring.reaches(0, a, b), true);
            }
            Due.is("in a row to NIL from " + a, chain.reaches(0, a, 5), true);
            Due.is("in a row from NIL to " + a, chain.reaches(0, 5, a), false);
            Due.is("in a ring to NIL from " + a, ring.reaches(0, a, 5), false);
        }
        Due.is("a ring beside the way", with("0-1 1-0").reaches(0, 0, 2), false);
        Due.is("a cell to itself", with("0-0").reaches(0, 0, 1), false);
        Due.is("the way goes on after its end", with("0-1 1-2").reaches(0, 0, 1), true);
        Due.is("through two empty lists", with("0*1 1*2").reaches(0, 0, 2), true);
        Due.is("through a list perhaps", with("0*n 1!n").reaches(0, 0, 1), false);
    }

    // Promise 15: "The least number of cells of a model of claim s; NONE if it has no model."
    private static void least() {
        Due.is("least of the empty claim", with("").least(0), 0);
        Due.is("least of six lists", with("0*1 1*2 2*3 3*4 4*n n*0").least(0), 0);
        Due.is("least of five lists with cells",
            with("0*n 1*n 2*n 3*n 4*n n*n 0!n 1!n 2!n 3!n 4!n").least(0), 5);
        Due.is("least of five cells", with("0-0 1-1 2-2 3-3 4-4 n*n").least(0), 5);
        Due.is("least is not that of the first division", with("0*1 1*2 0-3").least(0), 1);
        Due.is("least in the last division", with("0!1 0!2 0!3 0!4 0!n 1!2 1!3 2!3 0*n").least(0), 1);
        for (String claim : WITHOUT_MODEL) {
            Due.is("least of claim 0: " + claim, with("0: " + claim).least(0), ListHeaps.NONE);
            Due.is("least of claim 1: " + claim, with("1: " + claim).least(1), ListHeaps.NONE);
        }
    }

    // Promise 16: "The greatest number of cells of a model of claim s; NONE if it has no model, or
    // models with ever more cells."
    private static void most() {
        Due.is("most of the empty claim", with("").most(0), 0);
        Due.is("most of empty lists", with("0*0 1*1 2*2 3*3 4*4 n*n").most(0), 0);
        Due.is("most of lists from NIL", with("n*0 n*1 n*2 n*3 n*4 n*n").most(0), 0);
        Due.is("most of five cells", with("0-0 1-1 2-2 3-3 4-4 n*n").most(0), 5);
        Due.is("most where each list must be empty", with("0-n 1-n 0*2 1*3 n*4").most(0), 2);
        Due.is("most of a list that may be empty", with("0*1").most(0), ListHeaps.NONE);
        Due.is("most of a list that is not", with("0*1 0!1").most(0), ListHeaps.NONE);
        Due.is("most of a list between five places",
            with("0-n 1-n 2-n 3-n 4*n 4!n").most(0), ListHeaps.NONE);
        Due.is("most where all names are in use", with("0-1 1-2 2-3 3-4 4*0").most(0), ListHeaps.NONE);
        Due.is("most where one list of two is empty", with("0*1 0*2").most(0), ListHeaps.NONE);
        Due.is("most where both are", with("0*1 0*1").most(0), 0);
        for (String claim : WITHOUT_MODEL) {
            Due.is("most of claim 0: " + claim, with("0: " + claim).most(0), ListHeaps.NONE);
            Due.is("most of claim 1: " + claim, with("1: " + claim).most(1), ListHeaps.NONE);
        }
    }

    // Promises 11 to 14, 17 and 18, where there is no model: all is so in all of them, and in none
    private static void allModelsOfNone() {
        for (String claim : WITHOUT_MODEL) {
            for (int s = 0; s < 2; s++) {
                ListHeaps x = with(s + ": " + claim);
                for (int a = 0; a < 6; a++) {
                    Due.is("no model, held " + a + ": " + claim, x.held(s, a), true);
                    for (int b = 0; b < 6; b++) {
                        String told = " " + a + " " + b + ": " + claim;
                        Due.is("no model, alwaysSame" + told, x.alwaysSame(s, a, b), true);
                        Due.is("no model, neverSame" + told, x.neverSame(s, a, b), true);
                        Due.is("no model, reaches" + told, x.reaches(s, a, b), true);
                    }
                }
            }
            for (String second : List.of("", "0-1", "0*1 0!1", "0=1", "0!0", "n-n", claim)) {
                String told = "0: " + claim + " 1: " + second;
                Due.is("no model, follows: " + told, with(told).follows(), true);
                Due.is("no model, contains: " + told, with(told).contains(), true);
                Due.is("no model, together: " + told, with(told).together(), false);
            }
        }
    }

    private static void noModelOfClaimOne() {
        for (String claim : WITHOUT_MODEL) {
            for (String first : List.of("", "0-1", "0*1 0!1", "0=1", "0-1 1-2 2-3 3-4 4-n")) {
                String told = "0: " + first + " 1: " + claim;
                Due.is("follows to no model: " + told, with(told).follows(), false);
                Due.is("contains no model: " + told, with(told).contains(), false);
                Due.is("together with no model: " + told, with(told).together(), false);
            }
        }
    }

    // Promise 17: "Whether all models of claim 0 are models of claim 1."
    private static void follows() {
        String full = "0!n 1!n 2!n 3!n 4!n 0!1 1!2 2!3 0*1 1*2 2*3 3*4 4*n n*n";
        Due.is("a full claim from itself", with("0: " + full + " 1: " + full).follows(), true);
        Due.is("a list from a full claim", with("0: " + full + " 1: 0*n").follows(), true);
        Due.is("and not back", with("0: 0*n 1: " + full).follows(), false);
        Due.is("the first condition of eight alone fails",
            with("0: " + full + " 1: 0=n 1!n 2!n 3!n 4!n 0!1 1!2 2!3 0*n").follows(), false);
        Due.is("the last condition of eight alone fails",
            with("0: " + full + " 1: 0!n 1!n 2!n 3!n 4!n 0!1 1!2 2=3 0*n").follows(), false);
        Due.is("the last part of six alone fails",
            with("0: " + full + " 1: 0*1 1*2 2*3 3*4 4*n n*0").follows(), false);
        Due.is("the last part of six is missing",
            with("0: 0-n 1-n 2-n 3-n 4-n n*n 1: n*n 0-n 1-n 2-n 3-n").follows(), false);
        Due.is("parts in another order",
            with("0: 0-n 1-n 2-n 3-n 4-n n*n 1: 4-n n*n 2-n 0-n 1-n 3-n").follows(), true);
        Due.is("one model more fails", with("0: 0*1 1: 0*1 0!1").follows(), false);
        Due.is("one model less does not", with("0: 0*1 0!1 1: 0*1").follows(), true);
        Due.is("in the last division alone it fails",
            with("0: 0!1 0!2 0!3 0!4 1!2 1!3 1!4 2!3 1: 4=2").follows(), false);
    }

    // Promise 18: "the union of two heaps apart from each other, with one of which the meaning is a
    // model of claim 1": each of the two may be empty
    private static void contains() {
        Due.is("both empty", with("0: 1:").contains(), true);
        Due.is("the one empty", with("0: 0-1 1: 0=0").contains(), true);
        Due.is("the other empty", with("0: 0-1 1: 0-1").contains(), true);
        Due.is("none empty", with("0: 0-1 2-3 1: 0-1").contains(), true);
        Due.is("more than there is", with("0: 0-1 1: 0-1 2-3").contains(), false);
        Due.is("twice what there is", with("0: 0-1 1: 0-1 0-1").contains(), false);
        Due.is("the last of six", with("0: 0-n 1-n 2-n 3-n n*n 4-0 1: 4-0").contains(), true);
        Due.is("a piece of a list in a ring", with("0: 0*1 1*0 0!1 1: 0*1").contains(), true);
        Due.is("a ring is no list", with("0: 0-1 1-0 1: 0*n").contains(), false);
        Due.is("one model more fails", with("0: 0*1 1: 0*1 0!1").contains(), false);
    }

    // Promise 19: "Whether there is a meaning, with two heaps apart from each other"
    private static void together() {
        Due.is("two empty heaps", with("0: 1:").together(), true);
        Due.is("one empty heap", with("0: 0-1 1:").together(), true);
        Due.is("the other empty", with("0: 1: 0-1").together(), true);
        Due.is("five cells in all", with("0: 0-n 1-n 2-n 1: 3-n 4-n").together(), true);
        Due.is("six places of five", with("0: 0-n 1-n 2-n 1: 3-n 4-n 2-n").together(), false);
        Due.is("twelve parts", with("0: 0*1 1*2 2*3 3*4 4*n n*n 1: 0*1 1*2 2*3 3*4 4*n n*n").together(), true);
        Due.is("all empty then", with("0: 0*1 1*2 2*3 3*4 4*n 0!n 1: 0*1 1*2 2*3 3*4 4*n").together(), false);
        Due.is("one meaning for both", with("0: 0=1 1: 0!1").together(), false);
        Due.is("one meaning left", with("0: 0=1 1=2 2=3 1: 3=4 4=n 0=n").together(), true);
        Due.is("sixteen conditions",
            with("0: 0!1 0!2 0!3 0!4 0!n 1!2 1!3 1!4 1: 1!n 2!3 2!4 2!n 3!4 3!n 4!n 4=4").together(), true);
        Due.is("the last of them against the first",
            with("0: 0!1 0!2 0!3 0!4 0!n 1!2 1!3 1!4 1: 1!n 2!3 2!4 2!n 3!4 3!n 4!n 1=0").together(), false);
    }
}
