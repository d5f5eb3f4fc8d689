/**
 * Claims about names and heaps of cells. Every question is answered by going through all divisions
 * of the six terms (the names 0 to 4 and NIL, 5) into groups of equal meaning; within one division
 * the models of a claim differ only in how its lists run.
 */
public final class ListHeaps {
    public static final int BAD_ARG = -1;
    public static final int FULL = -2;
    public static final int NONE = -3;

    private static final int CLAIMS = 2;
    private static final int TERMS = 6;
    private static final int NIL = 5;
    private static final int DIVISIONS = 203;
    private static final int MAX_CONDITIONS = 8;
    private static final int MAX_PARTS = 6;
    private static final int CONDITION_SLOTS = 16;
    private static final int PART_SLOTS = 12;

    private static final int SAME = 0;
    private static final int OTHER = 1;
    private static final int CELL = 0;
    private static final int LIST = 1;
    private static final int NOTHING = -1;

    private final int[] conditionCount = new int[CLAIMS];
    private final int[] conditionKind = new int[CONDITION_SLOTS];
    private final int[] conditionLeft = new int[CONDITION_SLOTS];
    private final int[] conditionRight = new int[CONDITION_SLOTS];

    private final int[] partCount = new int[CLAIMS];
    private final int[] partKind = new int[PART_SLOTS];
    private final int[] partFrom = new int[PART_SLOTS];
    private final int[] partTo = new int[PART_SLOTS];

    // The division looked at: the group of each term, numbered in the order in which they appear.
    private final int[] group = new int[TERMS];

    // The heap looked at, by groups. next: the group that the cell at this group leads to, or
    // NOTHING without a cell. end: where the list that this cell is of ends, or NOTHING if the cell
    // is of no list. From a cell of a list to its next group there may be cells without a name.
    private final int[] next = new int[TERMS];
    private final int[] end = new int[TERMS];

    // The heap in which no list runs through a group that has no part of its own, and these groups.
    private final int[] plainNext = new int[TERMS];
    private final int[] plainEnd = new int[TERMS];
    private final int[] free = new int[TERMS];
    private int freeCount = 0;

    private final boolean[] taken = new boolean[TERMS];

    public ListHeaps() {
    }

    public int same(int s, int a, int b) {
        return addCondition(s, SAME, a, b);
    }

    public int other(int s, int a, int b) {
        return addCondition(s, OTHER, a, b);
    }

    public int cell(int s, int a, int b) {
        return addPart(s, CELL, a, b);
    }

    public int list(int s, int a, int b) {
        return addPart(s, LIST, a, b);
    }

    public int drop(int s, int what) {
        if (!isClaim(s)) {
            return BAD_ARG;
        }
        if (what == 0) {
            return dropLast(conditionCount, s);
        }
        if (what == 1) {
            return dropLast(partCount, s);
        }
        return BAD_ARG;
    }

    public int clear(int s) {
        if (!isClaim(s)) {
            return BAD_ARG;
        }
        int had = conditionCount[s] + partCount[s];
        conditionCount[s] = 0;
        partCount[s] = 0;
        return had;
    }

    public void swap() {
        exchange(conditionCount, 0, 1);
        for (int i = 0; i < MAX_CONDITIONS; i++) {
            exchange(conditionKind, i, MAX_CONDITIONS + i);
            exchange(conditionLeft, i, MAX_CONDITIONS + i);
            exchange(conditionRight, i, MAX_CONDITIONS + i);
        }
        exchange(partCount, 0, 1);
        for (int i = 0; i < MAX_PARTS; i++) {
            exchange(partKind, i, MAX_PARTS + i);
            exchange(partFrom, i, MAX_PARTS + i);
            exchange(partTo, i, MAX_PARTS + i);
        }
    }

    public boolean possible(int s) {
        return divisions(s) > 0;
    }

    public int divisions(int s) {
        if (!isClaim(s)) {
            return BAD_ARG;
        }
        int found = 0;
        firstDivision();
        for (int n = 0; n < DIVISIONS; n++) {
            if (buildPlainHeap(s)) {
                found++;
            }
            nextDivision();
        }
        return found;
    }

    public boolean alwaysSame(int s, int a, int b) {
        if (!isClaim(s) || !isTerm(a) || !isTerm(b)) {
            return false;
        }
        firstDivision();
        for (int n = 0; n < DIVISIONS; n++) {
            if (group[a] != group[b] && buildPlainHeap(s)) {
                return false;
            }
            nextDivision();
        }
        return true;
    }

    public boolean neverSame(int s, int a, int b) {
        if (!isClaim(s) || !isTerm(a) || !isTerm(b)) {
            return false;
        }
        firstDivision();
        for (int n = 0; n < DIVISIONS; n++) {
            if (group[a] == group[b] && buildPlainHeap(s)) {
                return false;
            }
            nextDivision();
        }
        return true;
    }

    // The plain heap is enough here and in reaches: where a list runs through more groups, the heap
    // has cells at more groups, and each group still leads to all it led to before.
    public boolean held(int s, int a) {
        if (!isClaim(s) || !isTerm(a)) {
            return false;
        }
        firstDivision();
        for (int n = 0; n < DIVISIONS; n++) {
            if (buildPlainHeap(s) && next[group[a]] == NOTHING) {
                return false;
            }
            nextDivision();
        }
        return true;
    }

    public boolean reaches(int s, int a, int b) {
        if (!isClaim(s) || !isTerm(a) || !isTerm(b)) {
            return false;
        }
        firstDivision();
        for (int n = 0; n < DIVISIONS; n++) {
            if (buildPlainHeap(s) && !leadsTo(group[a], group[b])) {
                return false;
            }
            nextDivision();
        }
        return true;
    }

    public int least(int s) {
        if (!isClaim(s)) {
            return BAD_ARG;
        }
        int fewest = NONE;
        firstDivision();
        for (int n = 0; n < DIVISIONS; n++) {
            if (buildPlainHeap(s)) {
                int cells = countCells();
                if (fewest == NONE || cells < fewest) {
                    fewest = cells;
                }
            }
            nextDivision();
        }
        return fewest;
    }

    public int most(int s) {
        if (!isClaim(s)) {
            return BAD_ARG;
        }
        int greatest = NONE;
        firstDivision();
        for (int n = 0; n < DIVISIONS; n++) {
            if (buildPlainHeap(s)) {
                // A list with a cell can have any number of cells.
                if (hasList()) {
                    return NONE;
                }
                int cells = countCells();
                if (cells > greatest) {
                    greatest = cells;
                }
            }
            nextDivision();
        }
        return greatest;
    }

    public boolean follows() {
        return everyModelFits(true);
    }

    public boolean contains() {
        return everyModelFits(false);
    }

    public boolean together() {
        firstDivision();
        for (int n = 0; n < DIVISIONS; n++) {
            if (conditionsHold(1) && buildPlainHeap(0) && addPartsToHeap(1)) {
                return true;
            }
            nextDivision();
        }
        return false;
    }

    private static boolean isClaim(int s) {
        return s >= 0 && s < CLAIMS;
    }

    private static boolean isTerm(int a) {
        return a >= 0 && a < TERMS;
    }

    private int addCondition(int s, int kind, int a, int b) {
        if (!isClaim(s) || !isTerm(a) || !isTerm(b)) {
            return BAD_ARG;
        }
        int count = conditionCount[s];
        if (count >= MAX_CONDITIONS) {
            return FULL;
        }
        int slot = s * MAX_CONDITIONS + count;
        conditionKind[slot] = kind;
        conditionLeft[slot] = a;
        conditionRight[slot] = b;
        conditionCount[s] = count + 1;
        return count + 1;
    }

    private int addPart(int s, int kind, int a, int b) {
        if (!isClaim(s) || !isTerm(a) || !isTerm(b)) {
            return BAD_ARG;
        }
        int count = partCount[s];
        if (count >= MAX_PARTS) {
            return FULL;
        }
        int slot = s * MAX_PARTS + count;
        partKind[slot] = kind;
        partFrom[slot] = a;
        partTo[slot] = b;
        partCount[s] = count + 1;
        return count + 1;
    }

    private static int dropLast(int[] counts, int s) {
        if (counts[s] == 0) {
            return NONE;
        }
        counts[s]--;
        return counts[s];
    }

    private static void exchange(int[] values, int i, int j) {
        int kept = values[i];
        values[i] = values[j];
        values[j] = kept;
    }

    private void firstDivision() {
        for (int i = 0; i < TERMS; i++) {
            group[i] = 0;
        }
    }

    // A term's group is at most one above the greatest before it, so that each division comes once.
    private void nextDivision() {
        for (int i = TERMS - 1; i > 0; i--) {
            if (group[i] < groupsOfFirst(i)) {
                group[i]++;
                return;
            }
            group[i] = 0;
        }
    }

    private int groupsOfFirst(int terms) {
        int groups = 0;
        for (int i = 0; i < terms && i < TERMS; i++) {
            if (group[i] >= groups) {
                groups = group[i] + 1;
            }
        }
        return groups;
    }

    /** Makes the plain heap of claim s in this division; false if the claim has no model in it. */
    private boolean buildPlainHeap(int s) {
        if (!conditionsHold(s)) {
            return false;
        }
        for (int g = 0; g < TERMS; g++) {
            next[g] = NOTHING;
            end[g] = NOTHING;
        }
        return addPartsToHeap(s);
    }

    private boolean conditionsHold(int s) {
        for (int i = 0; i < conditionCount[s]; i++) {
            int slot = s * MAX_CONDITIONS + i;
            boolean equal = group[conditionLeft[slot]] == group[conditionRight[slot]];
            if (equal != (conditionKind[slot] == SAME)) {
                return false;
            }
        }
        return true;
    }

    private boolean addPartsToHeap(int s) {
        for (int i = 0; i < partCount[s]; i++) {
            int slot = s * MAX_PARTS + i;
            int from = group[partFrom[slot]];
            int to = group[partTo[slot]];
            boolean isList = partKind[slot] == LIST;
            boolean hasCells = !isList || from != to;
            if (hasCells) {
                if (from == group[NIL] || next[from] != NOTHING) {
                    return false;
                }
                next[from] = to;
                end[from] = isList ? to : NOTHING;
            }
        }
        return true;
    }

    private boolean leadsTo(int from, int to) {
        int at = from;
        for (int step = 0; step < TERMS && at != to; step++) {
            if (next[at] == NOTHING) {
                return false;
            }
            at = next[at];
        }
        return at == to;
    }

    private int countCells() {
        int cells = 0;
        for (int g = 0; g < TERMS; g++) {
            if (next[g] != NOTHING) {
                cells++;
            }
        }
        return cells;
    }

    private boolean hasList() {
        for (int g = 0; g < TERMS; g++) {
            if (end[g] != NOTHING) {
                return true;
            }
        }
        return false;
    }

    /** Whether claim 1 is so of the whole heap, or of a piece of it, in every model of claim 0. */
    private boolean everyModelFits(boolean whole) {
        firstDivision();
        for (int n = 0; n < DIVISIONS; n++) {
            if (buildPlainHeap(0) && !everyRunFits(whole)) {
                return false;
            }
            nextDivision();
        }
        return true;
    }

    /** The same within one division: for every way in which the lists can run through free groups. */
    private boolean everyRunFits(boolean whole) {
        keepPlainHeap();
        int runs = countRuns();
        for (int run = 0; run < runs; run++) {
            if (buildRun(run) && !claimOneFits(whole)) {
                return false;
            }
        }
        return true;
    }

    private void keepPlainHeap() {
        boolean anyList = hasList();
        int groups = groupsOfFirst(TERMS);
        freeCount = 0;
        for (int g = 0; g < TERMS; g++) {
            plainNext[g] = next[g];
            plainEnd[g] = end[g];
            if (anyList && g < groups && g != group[NIL] && next[g] == NOTHING) {
                free[freeCount] = g;
                freeCount++;
            }
        }
    }

    private int countRuns() {
        int runs = 1;
        for (int i = 0; i < freeCount && i < TERMS; i++) {
            runs *= TERMS;
        }
        return runs;
    }

    /**
     * The digits of run, one for each free group, say after which group it is put into a list. No
     * list runs through NIL, so that NIL's digit can say that the group is put nowhere. False if
     * the digits ask for what cannot be.
     */
    private boolean buildRun(int run) {
        for (int g = 0; g < TERMS; g++) {
            next[g] = plainNext[g];
            end[g] = plainEnd[g];
        }
        int digits = run;
        for (int i = 0; i < freeCount && i < TERMS; i++) {
            int before = digits % TERMS;
            digits /= TERMS;
            if (before != group[NIL] && !putAfter(before, free[i])) {
                return false;
            }
        }
        return true;
    }

    private boolean putAfter(int before, int g) {
        if (end[before] == NOTHING || end[before] == g) {
            return false;
        }
        next[g] = next[before];
        end[g] = end[before];
        next[before] = g;
        return true;
    }

    // Meaning and heap leave each part of claim 1 at most one piece of the heap that it can be so of.
    private boolean claimOneFits(boolean whole) {
        if (!conditionsHold(1)) {
            return false;
        }
        for (int g = 0; g < TERMS; g++) {
            taken[g] = false;
        }
        for (int i = 0; i < partCount[1]; i++) {
            int slot = MAX_PARTS + i;
            int from = group[partFrom[slot]];
            int to = group[partTo[slot]];
            boolean found = partKind[slot] == LIST ? takeList(from, to) : takeCell(from, to);
            if (!found) {
                return false;
            }
        }
        return !whole || allTaken();
    }

    // A list's way from one group to the next counts as two cells or more, which no cell can be. That
    // covers the way of one cell: what is so of the heap with the longer way is so with this one.
    private boolean takeCell(int from, int to) {
        if (taken[from] || next[from] != to || end[from] != NOTHING) {
            return false;
        }
        taken[from] = true;
        return true;
    }

    private boolean takeList(int from, int to) {
        int at = from;
        for (int step = 0; step < TERMS && at != to; step++) {
            if (taken[at] || next[at] == NOTHING) {
                return false;
            }
            taken[at] = true;
            at = next[at];
        }
        return at == to;
    }

    private boolean allTaken() {
        for (int g = 0; g < TERMS; g++) {
            if (next[g] != NOTHING && !taken[g]) {
                return false;
            }
        }
        return true;
    }
}
