import java.util.ArrayList;
import java.util.List;

/**
 * Long runs of all calls, right and wrong ones mixed, on one object. What the claims must hold is
 * kept in plain lists; questions must be answered as by a new object that was told just that.
 */
public final class RunTest {
    private static final int RUNS = 150;
    private static final int CALLS = 512;

    private record Said(String kind, int a, int b) {
    }

    private static long seed = 512L;
    private static int refusals = 0;
    private static int fulls = 0;
    private static int nones = 0;

    private final List<List<Said>> conditions = new ArrayList<>(List.of(new ArrayList<>(), new ArrayList<>()));
    private final List<List<Said>> parts = new ArrayList<>(List.of(new ArrayList<>(), new ArrayList<>()));
    private final ListHeaps x = new ListHeaps();

    public static void main(String[] args) {
        for (int n = 0; n < RUNS; n++) {
            RunTest run = new RunTest();
            // Some runs add more than they take away, so that both lists fill up.
            int adding = 2 + n % 4;
            for (int call = 1; call <= CALLS; call++) {
                run.anyCall("run " + n + ", call " + call + ": ", adding);
            }
        }
        Due.is("calls were refused", refusals >= 1000, true);
        Due.is("claims were full", fulls >= 1000, true);
        Due.is("there was none to drop", nones >= 100, true);
        Due.end();
    }

    private static int pick(int bound) {
        seed = seed * 6364136223846793005L + 1442695040888963407L;
        return (int) ((seed >>> 33) % bound);
    }

    private static int pickOf(int greatest) {
        return pick(12) > 0 ? pick(greatest + 1) : pick(2) == 0 ? -1 - pick(3) : greatest + 1 + pick(3);
    }

    private void anyCall(String told, int adding) {
        int s = pickOf(1);
        int a = pickOf(5);
        int b = pickOf(5);
        int way = pick(10);
        if (way < adding) {
            add(told, s, a, b);
        } else if (way == adding) {
            takeAway(told, s);
        } else {
            ask(told, s, a, b);
        }
    }

    private static boolean isClaim(int s) {
        return s == 0 || s == 1;
    }

    private static boolean isTerm(int a) {
        return a >= 0 && a <= 5;
    }

    private void add(String told, int s, int a, int b) {
        boolean right = isClaim(s) && isTerm(a) && isTerm(b);
        // Most of what is said says nothing, or little, so that most claims have models.
        boolean trivial = right && pick(3) > 0;
        String kind = List.of("same", "other", "cell", "list").get(trivial ? pick(2) * 3 : pick(4));
        int to = trivial ? a : b;
        List<List<Said>> list = kind.equals("same") || kind.equals("other") ? conditions : parts;
        int limit = list == conditions ? 8 : 6;
        int want = !right ? ListHeaps.BAD_ARG : list.get(s).size() == limit ? ListHeaps.FULL
            : list.get(s).size() + 1;
        Due.is(told + kind + "(" + s + ", " + a + ", " + to + ")", say(x, s, new Said(kind, a, to)), want);
        if (want > 0) {
            list.get(s).add(new Said(kind, a, to));
        }
        refusals += want == ListHeaps.BAD_ARG ? 1 : 0;
        fulls += want == ListHeaps.FULL ? 1 : 0;
    }

    private static int say(ListHeaps to, int s, Said said) {
        return switch (said.kind()) {
            case "same" -> to.same(s, said.a(), said.b());
            case "other" -> to.other(s, said.a(), said.b());
            case "cell" -> to.cell(s, said.a(), said.b());
            default -> to.list(s, said.a(), said.b());
        };
    }

    private void takeAway(String told, int s) {
        int way = pick(8);
        if (way == 0) {
            int want = isClaim(s) ? conditions.get(s).size() + parts.get(s).size() : ListHeaps.BAD_ARG;
            Due.is(told + "clear(" + s + ")", x.clear(s), want);
            if (isClaim(s)) {
                conditions.get(s).clear();
                parts.get(s).clear();
            }
        } else if (way < 3) {
            x.swap();
            conditions.add(conditions.remove(0));
            parts.add(parts.remove(0));
        } else {
            dropOne(told, s, pickOf(1));
        }
    }

    private void dropOne(String told, int s, int what) {
        int want = ListHeaps.BAD_ARG;
        if (isClaim(s) && (what == 0 || what == 1)) {
            List<Said> list = (what == 0 ? conditions : parts).get(s);
            want = list.isEmpty() ? ListHeaps.NONE : list.size() - 1;
            if (want >= 0) {
                list.remove(want);
            }
        }
        Due.is(told + "drop(" + s + ", " + what + ")", x.drop(s, what), want);
        refusals += want == ListHeaps.BAD_ARG ? 1 : 0;
        nones += want == ListHeaps.NONE ? 1 : 0;
    }

    private void ask(String told, int s, int a, int b) {
        ListHeaps anew = new ListHeaps();
        for (int claim = 0; claim < 2; claim++) {
            for (Said said : parts.get(claim)) {
                say(anew, claim, said);
            }
            for (Said said : conditions.get(claim)) {
                say(anew, claim, said);
            }
        }
        int question = pick(11);
        String got = answer(x, question, s, a, b);
        Due.is(told + got.replaceAll(":.*", ""), got, answer(anew, question, s, a, b));
        refusals += isClaim(s) ? 0 : 1;
    }

    private static String answer(ListHeaps of, int question, int s, int a, int b) {
        String two = "(" + s + ", " + a + ", " + b + "): ";
        return switch (question) {
            case 0 -> "possible(" + s + "): " + of.possible(s);
            case 1 -> "divisions(" + s + "): " + of.divisions(s);
            case 2 -> "alwaysSame" + two + of.alwaysSame(s, a, b);
            case 3 -> "neverSame" + two + of.neverSame(s, a, b);
            case 4 -> "held(" + s + ", " + a + "): " + of.held(s, a);
            case 5 -> "reaches" + two + of.reaches(s, a, b);
            case 6 -> "least(" + s + "): " + of.least(s);
            case 7 -> "most(" + s + "): " + of.most(s);
            case 8 -> "follows(): " + of.follows();
            case 9 -> "contains(): " + of.contains();
            default -> "together(): " + of.together();
        };
    }
}
