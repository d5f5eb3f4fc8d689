/** Promises 1 to 8: what the claims hold, and what refused calls answer and leave alone. */
public final class StateTest {
    private static final int[] NO_CLAIM = {-1, 2, 3, Integer.MIN_VALUE, Integer.MAX_VALUE};
    private static final int[] NO_TERM = {-1, 6, 7, Integer.MIN_VALUE, Integer.MAX_VALUE};

    public static void main(String[] args) {
        newObject();
        sameAndOther();
        cellAndList();
        drop();
        clear();
        swap();
        wrongArguments();
        wrongArgumentsWhenFull();
        Due.end();
    }

    private static void newObject() {
        ListHeaps x = new ListHeaps();
        for (int s = 0; s < 2; s++) {
            Due.is("new: drop(s, 0)", x.drop(s, 0), ListHeaps.NONE);
            Due.is("new: drop(s, 1)", x.drop(s, 1), ListHeaps.NONE);
            Due.is("new: clear(s)", x.clear(s), 0);
            Due.is("new: divisions(s)", x.divisions(s), 203);
            Due.is("new: most(s)", x.most(s), 0);
        }
        new ListHeaps().cell(0, 0, 1);
        Due.is("objects share nothing", new ListHeaps().clear(0), 0);
    }

    private static void sameAndOther() {
        ListHeaps x = new ListHeaps();
        for (int s = 0; s < 2; s++) {
            for (int i = 1; i <= 8; i++) {
                int got = i % 2 == 0 ? x.same(s, 0, 1) : x.other(s, 2, 5);
                Due.is("condition " + i, got, i);
            }
            Due.is("same when full", x.same(s, 3, 4), ListHeaps.FULL);
            Due.is("other when full", x.other(s, 0, 1), ListHeaps.FULL);
            Due.is("a full list still has its conditions", x.divisions(s), 52 - 15);
            Due.is("conditions leave room for parts", x.cell(s, 0, 1), 1);
        }
        x = new ListHeaps();
        x.same(1, 3, 4);
        Due.is("same: of its claim", x.alwaysSame(1, 3, 4), true);
        Due.is("same: not of the other claim", x.alwaysSame(0, 3, 4), false);
        x.other(0, 4, 5);
        Due.is("other: of its claim", x.neverSame(0, 4, 5), true);
        Due.is("other: not of the other claim", x.neverSame(1, 4, 5), false);
        Due.is("same(0, 2, 2)", x.same(0, 2, 2), 2);
        Due.is("same with itself says nothing", x.divisions(0), 203 - 52);
        Due.is("other(0, 5, 5)", x.other(0, 5, 5), 3);
        Due.is("other than itself cannot be", x.divisions(0), 0);
    }

    private static void cellAndList() {
        ListHeaps x = new ListHeaps();
        for (int s = 0; s < 2; s++) {
            for (int i = 1; i <= 6; i++) {
                int got = i % 2 == 0 ? x.cell(s, 0, 1) : x.list(s, 2, 5);
                Due.is("part " + i, got, i);
            }
            Due.is("cell when full", x.cell(s, 3, 4), ListHeaps.FULL);
            Due.is("list when full", x.list(s, 3, 4), ListHeaps.FULL);
            Due.is("parts leave room for conditions", x.same(s, 0, 0), 1);
            Due.is("a full list of parts", x.clear(s), 7);
        }
        x.cell(1, 0, 5);
        Due.is("cell: of its claim", x.least(1), 1);
        Due.is("cell: not of the other claim", x.least(0), 0);
        x.list(0, 3, 4);
        Due.is("list: of its claim", x.reaches(0, 3, 4), true);
        Due.is("list: not of the other claim", x.reaches(1, 3, 4), false);
        x = new ListHeaps();
        Due.is("cell goes from a to b", x.cell(0, 2, 3), 1);
        Due.is("cell: from", x.held(0, 2), true);
        Due.is("cell: to", x.held(0, 3), false);
        for (int i = 0; i < 5; i++) {
            x.list(0, 4, 4);
        }
        Due.is("six parts that can be", x.possible(0), true);
        Due.is("a seventh", x.cell(0, 2, 3), ListHeaps.FULL);
        Due.is("is not added", x.possible(0), true);
    }

    private static void drop() {
        ListHeaps x = new ListHeaps();
        x.same(0, 0, 1);
        x.other(0, 2, 3);
        x.cell(0, 0, 5);
        x.list(0, 4, 5);
        x.cell(1, 0, 5);
        Due.is("drop(0, 2)", x.drop(0, 2), ListHeaps.BAD_ARG);
        Due.is("drop(0, -1)", x.drop(0, -1), ListHeaps.BAD_ARG);
        Due.is("drop(2, 0)", x.drop(2, 0), ListHeaps.BAD_ARG);
        Due.is("drop(0, 0)", x.drop(0, 0), 1);
        Due.is("the last condition is gone", x.neverSame(0, 2, 3), false);
        Due.is("the first condition is not", x.alwaysSame(0, 0, 1), true);
        Due.is("drop(0, 1)", x.drop(0, 1), 1);
        Due.is("the last part is gone", x.most(0), 1);
        Due.is("the first part is not", x.held(0, 0), true);
        Due.is("drop(0, 0) again", x.drop(0, 0), 0);
        Due.is("drop(0, 0) of none", x.drop(0, 0), ListHeaps.NONE);
        Due.is("the part is still there", x.held(0, 0), true);
        Due.is("drop(0, 1) again", x.drop(0, 1), 0);
        Due.is("drop(0, 1) of none", x.drop(0, 1), ListHeaps.NONE);
        Due.is("drop(0, 2) of none", x.drop(0, 2), ListHeaps.BAD_ARG);
        Due.is("the other claim is as it was", x.held(1, 0), true);
        Due.is("drop(1, 1)", x.drop(1, 1), 0);
        for (int i = 0; i < 8; i++) {
            x.same(0, 0, 0);
        }
        Due.is("drop(0, 0) of 8", x.drop(0, 0), 7);
        Due.is("makes room", x.other(0, 1, 2), 8);
        Due.is("for another one", x.neverSame(0, 1, 2), true);
    }

    private static void clear() {
        ListHeaps x = new ListHeaps();
        x.same(0, 0, 1);
        x.other(0, 0, 2);
        x.list(0, 0, 5);
        x.cell(1, 3, 4);
        Due.is("clear(2)", x.clear(2), ListHeaps.BAD_ARG);
        Due.is("clear(0)", x.clear(0), 3);
        Due.is("divisions(0) when cleared", x.divisions(0), 203);
        Due.is("most(0) when cleared", x.most(0), 0);
        Due.is("clear(0) again", x.clear(0), 0);
        Due.is("the other claim is as it was", x.clear(1), 1);
        for (int i = 0; i < 8; i++) {
            x.same(1, 0, 1);
            x.list(1, 0, 1);
        }
        Due.is("clear(1) of all that it can have", x.clear(1), 14);
    }

    private static void swap() {
        ListHeaps x = new ListHeaps();
        x.same(0, 0, 1);
        x.other(0, 0, 5);
        x.cell(0, 2, 3);
        x.list(1, 4, 5);
        for (int n = 1; n <= 3; n++) {
            x.swap();
            int first = n % 2;
            Due.is("swap: same", x.alwaysSame(first, 0, 1), true);
            Due.is("swap: no same", x.alwaysSame(1 - first, 0, 1), false);
            Due.is("swap: other", x.neverSame(first, 0, 5), true);
            Due.is("swap: no other", x.neverSame(1 - first, 0, 5), false);
            Due.is("swap: cell", x.most(first), 1);
            Due.is("swap: list", x.reaches(1 - first, 4, 5), true);
        }
        Due.is("swap: counts of 1", x.clear(1), 3);
        Due.is("swap: counts of 0", x.clear(0), 1);
        for (int i = 0; i < 8; i++) {
            x.same(0, i % 2, i % 2);
            x.list(0, i % 2, i % 2);
        }
        x.drop(0, 0);
        x.drop(0, 1);
        x.other(0, 3, 4);
        x.cell(0, 3, 4);
        x.swap();
        Due.is("swap: the eighth condition", x.neverSame(1, 3, 4), true);
        Due.is("swap: the sixth part", x.held(1, 3), true);
        Due.is("swap: full conditions", x.same(1, 0, 0), ListHeaps.FULL);
        Due.is("swap: full parts", x.cell(1, 0, 0), ListHeaps.FULL);
        Due.is("swap: the empty claim", x.divisions(0), 203);
    }

    private static void wrongArguments() {
        ListHeaps x = new ListHeaps();
        for (int s : NO_CLAIM) {
            refused(x, s, 0, 0);
            refused(x, s, 6, -1);
            Due.is("drop(" + s + ", 0)", x.drop(s, 0), ListHeaps.BAD_ARG);
            Due.is("drop(" + s + ", 5)", x.drop(s, 5), ListHeaps.BAD_ARG);
            Due.is("clear(" + s + ")", x.clear(s), ListHeaps.BAD_ARG);
            Due.is("possible(" + s + ")", x.possible(s), false);
            Due.is("divisions(" + s + ")", x.divisions(s), ListHeaps.BAD_ARG);
            Due.is("least(" + s + ")", x.least(s), ListHeaps.BAD_ARG);
            Due.is("most(" + s + ")", x.most(s), ListHeaps.BAD_ARG);
            Due.is("held(" + s + ", 0)", x.held(s, 0), false);
        }
        // Of a claim that cannot be, everything is so, but not of what is no term.
        x.other(0, 0, 0);
        for (int s = 0; s < 2; s++) {
            for (int a : NO_TERM) {
                refused(x, s, a, 0);
                refused(x, s, 5, a);
                Due.is("held(" + s + ", " + a + ")", x.held(s, a), false);
                Due.is("drop(" + s + ", " + (a < 0 ? a : a - 4) + ")",
                    x.drop(s, a < 0 ? a : a - 4), ListHeaps.BAD_ARG);
            }
        }
        Due.is("refused calls add nothing to 0", x.clear(0), 1);
        Due.is("refused calls add nothing to 1", x.clear(1), 0);
    }

    private static void refused(ListHeaps x, int s, int a, int b) {
        String with = "(" + s + ", " + a + ", " + b + ")";
        Due.is("same" + with, x.same(s, a, b), ListHeaps.BAD_ARG);
        Due.is("other" + with, x.other(s, a, b), ListHeaps.BAD_ARG);
        Due.is("cell" + with, x.cell(s, a, b), ListHeaps.BAD_ARG);
        Due.is("list" + with, x.list(s, a, b), ListHeaps.BAD_ARG);
        Due.is("alwaysSame" + with, x.alwaysSame(s, a, b), false);
        Due.is("neverSame" + with, x.neverSame(s, a, b), false);
        Due.is("reaches" + with, x.reaches(s, a, b), false);
    }

    private static void wrongArgumentsWhenFull() {
        ListHeaps x = new ListHeaps();
        for (int i = 0; i < 8; i++) {
            x.same(0, 0, 0);
            x.list(0, 0, 0);
        }
        refused(x, 0, 6, 0);
        refused(x, 0, 0, -1);
        Due.is("still all", x.clear(0), 14);
    }
}
