/** Objects whose claims are told in a line, and all that can be asked of an object. */
final class Told {
    private Told() {
    }

    /**
     * An object with both claims as told: after "0:" or "1:" comes a claim, "a=b" and "a!b" are
     * conditions, "a-b" is a cell and "a*b" a list, with n for NIL.
     */
    static ListHeaps with(String claims) {
        ListHeaps x = new ListHeaps();
        int s = 0;
        for (String word : claims.trim().split(" +")) {
            if (word.endsWith(":")) {
                s = word.charAt(0) - '0';
            } else if (!word.isEmpty()) {
                add(x, s, word);
            }
        }
        return x;
    }

    private static void add(ListHeaps x, int s, String word) {
        int a = term(word.charAt(0));
        int b = term(word.charAt(2));
        int has = switch (word.charAt(1)) {
            case '=' -> x.same(s, a, b);
            case '!' -> x.other(s, a, b);
            case '-' -> x.cell(s, a, b);
            case '*' -> x.list(s, a, b);
            default -> 0;
        };
        if (has < 1) {
            throw new IllegalArgumentException("not a word of a claim, or one too many: " + word);
        }
    }

    private static int term(char c) {
        return c == 'n' ? 5 : c - '0';
    }

    /**
     * Every answer that the object gives, and then what each condition and part says, told by taking
     * them away one by one: the object's claims are empty afterwards. Takes some 300 calls.
     */
    static String everything(ListHeaps x) {
        StringBuilder all = new StringBuilder();
        all.append(x.follows()).append(x.contains()).append(x.together());
        for (int s = 0; s < 2; s++) {
            all.append("\nclaim ").append(s).append(x.possible(s));
            for (int a = 0; a < 6; a++) {
                all.append(x.held(s, a) ? " h" : " -");
                for (int b = 0; b < 6; b++) {
                    all.append(x.alwaysSame(s, a, b) ? 'a' : '-');
                    all.append(x.neverSame(s, a, b) ? 'n' : '-');
                    all.append(x.reaches(s, a, b) ? 'r' : '-');
                }
            }
        }
        for (int s = 0; s < 2; s++) {
            all.append("\nclaim ").append(s);
            for (int what = 1; what >= 0; what--) {
                int left = 0;
                for (int n = 0; n < 9 && left >= 0; n++) {
                    all.append(" (").append(x.divisions(s)).append(' ').append(x.least(s));
                    all.append(' ').append(x.most(s)).append(')');
                    left = x.drop(s, what);
                    all.append(' ').append(left);
                }
            }
            all.append(' ').append(x.clear(s));
        }
        return all.toString();
    }
}
