import java.util.ArrayList;
import java.util.Arrays;
import java.util.List;

/**
 * The document's own words: models are built place by place, up to a number of cells, and a claim is
 * tried on a heap by trying every way to divide it. An object's answers are held against them.
 */
final class Models {
    static final int NIL = 0;
    private static final int PLACES = 16;
    private static final int NO_CELL = -1;

    /** How often the right answer was no, and how often yes. */
    private static final int[][] asked = new int[5][2];

    private Models() {
    }

    static void bothAnswersCame(int times) {
        System.out.println("no and yes: follows " + Arrays.toString(asked[0]) + ", contains "
            + Arrays.toString(asked[1]) + ", together " + Arrays.toString(asked[2]) + ", held "
            + Arrays.toString(asked[3]) + ", reaches " + Arrays.toString(asked[4]));
        for (int[] answers : asked) {
            Due.is("both answers come", answers[0] >= times && answers[1] >= times, true);
        }
    }

    /** What each of the six terms means (NIL is 0, places are 1 and above), and what each place holds. */
    record Model(int[] meaning, int[] heap) {
        int cells() {
            int cells = 0;
            for (int value : heap) {
                cells += value == NO_CELL ? 0 : 1;
            }
            return cells;
        }

        boolean reaches(int from, int to) {
            int at = from;
            for (int step = 0; step <= PLACES && at != to && heap[at] != NO_CELL; step++) {
                at = heap[at];
            }
            return at == to;
        }
    }

    static int countParts(List<Said> claim) {
        int parts = 0;
        for (Said said : claim) {
            parts += said.isPart() ? 1 : 0;
        }
        return parts;
    }

    static ListHeaps with(List<Said> first, List<Said> second) {
        ListHeaps x = new ListHeaps();
        for (Said said : first) {
            said.addTo(x, 0);
        }
        for (Said said : second) {
            said.addTo(x, 1);
        }
        return x;
    }

    static void tryOne(ListHeaps x, List<Said> claim, List<Model> models, String told) {
        Due.is("possible " + told, x.possible(0), !models.isEmpty());
        int divisions = 0;
        int least = ListHeaps.NONE;
        int most = ListHeaps.NONE;
        int[] last = null;
        for (Model model : models) {
            divisions += last == model.meaning() ? 0 : 1;
            last = model.meaning();
            least = least == ListHeaps.NONE ? model.cells() : Math.min(least, model.cells());
            most = Math.max(most, model.cells());
        }
        // More cells than parts: some list has two or more, and could have any number.
        boolean everMore = most > countParts(claim);
        Due.is("divisions " + told, x.divisions(0), divisions);
        Due.is("least " + told, x.least(0), least);
        Due.is("most " + told, x.most(0), everMore ? ListHeaps.NONE : most);
        for (int a = 0; a < 6; a++) {
            tryHeld(x, models, a, told);
            for (int b = 0; b < 6; b++) {
                tryTwo(x, models, a, b, told);
            }
        }
    }

    private static void tryHeld(ListHeaps x, List<Model> models, int a, String told) {
        boolean held = true;
        for (Model model : models) {
            held &= model.heap()[model.meaning()[a]] != NO_CELL;
        }
        Due.is("held " + a + " " + told, x.held(0, a), held);
        asked[3][held ? 1 : 0]++;
    }

    private static void tryTwo(ListHeaps x, List<Model> models, int a, int b, String told) {
        boolean always = true;
        boolean never = true;
        boolean reaches = true;
        for (Model model : models) {
            int from = model.meaning()[a];
            int to = model.meaning()[b];
            always &= from == to;
            never &= from != to;
            reaches &= model.reaches(from, to);
        }
        String with = " " + a + " " + b + " " + told;
        Due.is("alwaysSame" + with, x.alwaysSame(0, a, b), always);
        Due.is("neverSame" + with, x.neverSame(0, a, b), never);
        Due.is("reaches" + with, x.reaches(0, a, b), reaches);
        asked[4][reaches ? 1 : 0]++;
    }

    static void tryBoth(ListHeaps x, List<Model> models, List<Said> first, List<Said> second,
            String told) {
        boolean follows = true;
        boolean contains = true;
        for (Model model : models) {
            follows = follows && isModel(model, second, false);
            contains = contains && isModel(model, second, true);
        }
        List<Said> both = new ArrayList<>(first);
        both.addAll(second);
        // Each part with cells starts at a place of its own, and at most five places have names.
        boolean together = !models(both, 5).isEmpty();
        Due.is("follows " + told, x.follows(), follows);
        Due.is("contains " + told, x.contains(), contains);
        Due.is("together " + told, x.together(), together);
        // A claim without models shows nothing, as all is so in all of them.
        if (!models.isEmpty()) {
            asked[0][follows ? 1 : 0]++;
            asked[1][contains ? 1 : 0]++;
            asked[2][together ? 1 : 0]++;
        }
    }

    /** One meaning for each division, with the places numbered as they come. */
    static List<int[]> meanings() {
        List<int[]> found = new ArrayList<>();
        addMeanings(new int[6], 0, NIL, found);
        return found;
    }

    private static void addMeanings(int[] meaning, int name, int lastPlace, List<int[]> found) {
        if (name == 5) {
            found.add(meaning.clone());
            return;
        }
        for (int value = NIL; value <= lastPlace + 1; value++) {
            meaning[name] = value;
            addMeanings(meaning, name + 1, Math.max(lastPlace, value), found);
        }
        meaning[name] = NIL;
    }

    private static boolean conditionsHold(int[] meaning, List<Said> claim) {
        for (Said said : claim) {
            boolean equal = meaning[said.a()] == meaning[said.b()];
            if (said.kind() == Said.SAME && !equal || said.kind() == Said.OTHER && equal) {
                return false;
            }
        }
        return true;
    }

    private static List<Said> parts(List<Said> claim) {
        List<Said> parts = new ArrayList<>();
        for (Said said : claim) {
            if (said.isPart()) {
                parts.add(said);
            }
        }
        return parts;
    }

    static List<Model> models(List<Said> claim, int mostCells) {
        List<Model> found = new ArrayList<>();
        List<Said> parts = parts(claim);
        for (int[] meaning : meanings()) {
            if (conditionsHold(meaning, claim)) {
                int lastPlace = NIL;
                for (int value : meaning) {
                    lastPlace = Math.max(lastPlace, value);
                }
                int[] heap = new int[PLACES];
                Arrays.fill(heap, NO_CELL);
                Building building = new Building(meaning, parts, heap, found);
                building.addPart(0, lastPlace, mostCells);
            }
        }
        return found;
    }

    /** Builds every heap for one meaning by the words for cells and lists. */
    private record Building(int[] meaning, List<Said> parts, int[] heap, List<Model> found) {
        void addPart(int part, int lastPlace, int cellsLeft) {
            if (part == parts.size()) {
                found.add(new Model(meaning, heap.clone()));
                return;
            }
            Said said = parts.get(part);
            int from = meaning[said.a()];
            int to = meaning[said.b()];
            if (said.kind() == Said.LIST) {
                addList(part, from, to, lastPlace, cellsLeft);
            } else if (from != NIL && heap[from] == NO_CELL && cellsLeft > 0) {
                heap[from] = to;
                addPart(part + 1, lastPlace, cellsLeft - 1);
                heap[from] = NO_CELL;
            }
        }

        void addList(int part, int from, int to, int lastPlace, int cellsLeft) {
            if (from == to) {
                addPart(part + 1, lastPlace, cellsLeft);
                return;
            }
            if (from == NIL || heap[from] != NO_CELL || cellsLeft == 0) {
                return;
            }
            for (int value = NIL; value <= lastPlace + 1; value++) {
                heap[from] = value;
                addList(part, value, to, Math.max(lastPlace, value), cellsLeft - 1);
            }
            heap[from] = NO_CELL;
        }
    }

    private static boolean isModel(Model model, List<Said> claim, boolean withMore) {
        int all = 0;
        for (int place = 1; place < PLACES; place++) {
            all |= model.heap()[place] == NO_CELL ? 0 : 1 << place;
        }
        return conditionsHold(model.meaning(), claim)
            && canDivide(model, parts(claim), 0, all, withMore);
    }

    private static boolean canDivide(Model model, List<Said> parts, int part, int left, boolean withMore) {
        if (part == parts.size()) {
            return withMore || left == 0;
        }
        int piece = left;
        while (true) {
            if (isSo(model, parts.get(part), piece)
                    && canDivide(model, parts, part + 1, left & ~piece, withMore)) {
                return true;
            }
            if (piece == 0) {
                return false;
            }
            piece = piece - 1 & left;
        }
    }

    private static boolean isSo(Model model, Said part, int piece) {
        int from = model.meaning()[part.a()];
        int to = model.meaning()[part.b()];
        if (part.kind() == Said.LIST) {
            return isList(model, from, to, piece);
        }
        return from != NIL && piece == 1 << from && model.heap()[from] == to;
    }

    private static boolean isList(Model model, int from, int to, int piece) {
        if (from == to) {
            return piece == 0;
        }
        return from != NIL && (piece & 1 << from) != 0
            && isList(model, model.heap()[from], to, piece & ~(1 << from));
    }
}
