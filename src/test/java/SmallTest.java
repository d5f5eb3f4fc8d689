import java.util.ArrayList;
import java.util.List;

/** Promises 9 to 19 on every claim of at most two conditions and parts with few names. */
public final class SmallTest {
    public static void main(String[] args) {
        int[] twoNames = {0, 1, 5};
        int[] threeNames = {0, 1, 2, 5};
        List<Said> parts = saidOf(twoNames, Said.CELL, Said.LIST);
        tryEveryTwo(claimsOfTwo(parts), claimsOfTwo(parts));
        List<Said> moreParts = saidOf(threeNames, Said.CELL, Said.LIST);
        tryEveryTwo(claimsOfOne(moreParts), claimsOfTwo(moreParts));
        List<Said> all = saidOf(twoNames, Said.SAME, Said.OTHER, Said.CELL, Said.LIST);
        tryEach(claimsOfTwo(all));
        tryEveryTwo(claimsOfTwo(all), claimsOfOne(all));
        Models.bothAnswersCame(100);
        Due.end();
    }

    private static List<Said> saidOf(int[] terms, int... kinds) {
        List<Said> all = new ArrayList<>();
        for (int kind : kinds) {
            for (int a : terms) {
                for (int b : terms) {
                    all.add(new Said(kind, a, b));
                }
            }
        }
        return all;
    }

    private static List<List<Said>> claimsOfOne(List<Said> said) {
        List<List<Said>> claims = new ArrayList<>();
        for (Said one : said) {
            claims.add(List.of(one));
        }
        return claims;
    }

    /** The empty claim, and those of one or two, in one of their orders. */
    private static List<List<Said>> claimsOfTwo(List<Said> said) {
        List<List<Said>> claims = claimsOfOne(said);
        claims.add(List.of());
        for (int i = 0; i < said.size(); i++) {
            for (int j = 0; j <= i; j++) {
                claims.add(List.of(said.get(i), said.get(j)));
            }
        }
        return claims;
    }

    private static List<Models.Model> modelsOf(List<Said> claim) {
        return Models.models(claim, Models.countParts(claim) + 2);
    }

    private static void tryEach(List<List<Said>> claims) {
        for (List<Said> claim : claims) {
            Models.tryOne(Models.with(claim, List.of()), claim, modelsOf(claim), claim.toString());
        }
    }

    private static void tryEveryTwo(List<List<Said>> firsts, List<List<Said>> seconds) {
        for (List<Said> first : firsts) {
            List<Models.Model> models = modelsOf(first);
            for (List<Said> second : seconds) {
                Models.tryBoth(Models.with(first, second), models, first, second, first + " / " + second);
            }
        }
    }
}
