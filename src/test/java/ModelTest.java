import java.util.ArrayList;
import java.util.List;

/**
 * Promises 9 to 19 on many claims, up to full ones, the second of two being made from the first by
 * changes. With an argument n, n times as many claims are tried.
 */
public final class ModelTest {
    private static long seed = 20261115L;

    public static void main(String[] args) {
        int times = args.length == 0 ? 1 : Integer.parseInt(args[0]);
        List<int[]> meanings = Models.meanings();
        Due.is("meanings", meanings.size(), 203);
        for (int n = 0; n < 1200 * times; n++) {
            tryClaims(2 + n % 4, 1 + pick(3), 1 + pick(4));
        }
        for (int n = 0; n < 200 * times; n++) {
            tryFullClaims(meanings.get(pick(meanings.size())), 1 + pick(3));
        }
        Models.bothAnswersCame(100);
        Due.end();
    }

    private static int pick(int bound) {
        seed = seed * 6364136223846793005L + 1442695040888963407L;
        return (int) ((seed >>> 33) % bound);
    }

    // Few terms make more claims that have models of their own and that follow from each other.
    private static int pickTerm(int names) {
        int term = pick(names + 1);
        return term == names ? 5 : term;
    }

    private static void tryClaims(int names, int parts, int changes) {
        List<Said> first = new ArrayList<>();
        for (int i = 0; i < parts; i++) {
            first.add(new Said(pick(3) == 0 ? Said.CELL : Said.LIST, pickTerm(names), pickTerm(names)));
        }
        for (int i = pick(4); i > 0; i--) {
            first.add(new Said(pick(3) == 0 ? Said.SAME : Said.OTHER, pickTerm(names), pickTerm(names)));
        }
        List<Said> second = new ArrayList<>(first);
        for (int i = 0; i < changes; i++) {
            change(second, names);
        }
        ListHeaps x = Models.with(first, second);
        String told = first + " / " + second;
        List<Models.Model> models = Models.models(first, parts + 2);
        Models.tryOne(x, first, models, told);
        Models.tryBoth(x, models, first, second, told);
    }

    /** Claims with 8 conditions and 6 parts, the first one having a model with this meaning. */
    private static void tryFullClaims(int[] meaning, int changes) {
        List<Said> first = new ArrayList<>();
        boolean[] started = new boolean[6];
        while (first.size() < 6) {
            int a = pick(6);
            int b = pick(6);
            boolean hasCells = meaning[a] != meaning[b];
            if (!hasCells) {
                first.add(new Said(Said.LIST, a, b));
            } else if (meaning[a] != Models.NIL && !started[meaning[a]]) {
                started[meaning[a]] = true;
                first.add(new Said(pick(3) == 0 ? Said.CELL : Said.LIST, a, b));
            }
        }
        while (first.size() < 6 + 8) {
            int a = pick(6);
            int b = pick(6);
            first.add(new Said(meaning[a] == meaning[b] ? Said.SAME : Said.OTHER, a, b));
        }
        List<Said> second = new ArrayList<>(first);
        for (int i = 0; i < changes; i++) {
            change(second, 5);
        }
        ListHeaps x = Models.with(first, second);
        String told = first + " / " + second;
        List<Models.Model> models = Models.models(first, 7);
        Due.is("made to have a model " + told, models.isEmpty(), false);
        Models.tryOne(x, first, models, told);
        Models.tryBoth(x, models, first, second, told);
    }

    private static void change(List<Said> claim, int names) {
        int parts = Models.countParts(claim);
        int way = pick(6);
        if (way == 0 && parts < 4) {
            claim.add(new Said(pick(2) == 0 ? Said.CELL : Said.LIST, pickTerm(names), pickTerm(names)));
        } else if (way == 1) {
            claim.add(new Said(pick(2), pickTerm(names), pickTerm(names)));
        } else if (way == 2 && !claim.isEmpty()) {
            claim.remove(pick(claim.size()));
        } else if (way == 3) {
            cellsToLists(claim);
        } else {
            joinLists(claim);
        }
        while (claim.size() - Models.countParts(claim) > 8) {
            claim.remove(claim.size() - 1);
        }
    }

    private static void cellsToLists(List<Said> claim) {
        for (int i = 0; i < claim.size(); i++) {
            Said said = claim.get(i);
            if (said.kind() == Said.CELL) {
                claim.set(i, new Said(Said.LIST, said.a(), said.b()));
            }
        }
    }

    private static void joinLists(List<Said> claim) {
        for (Said one : claim) {
            for (Said two : claim) {
                if (one != two && one.isPart() && two.isPart() && one.b() == two.a()) {
                    claim.remove(one);
                    claim.remove(two);
                    claim.add(new Said(Said.LIST, one.a(), two.b()));
                    return;
                }
            }
        }
    }
}
