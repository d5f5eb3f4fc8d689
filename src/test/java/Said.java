/** One side condition or part of a claim. */
record Said(int kind, int a, int b) {
    static final int SAME = 0;
    static final int OTHER = 1;
    static final int CELL = 2;
    static final int LIST = 3;

    boolean isPart() {
        return kind == CELL || kind == LIST;
    }

    void addTo(ListHeaps x, int s) {
        switch (kind) {
            case SAME -> x.same(s, a, b);
            case OTHER -> x.other(s, a, b);
            case CELL -> x.cell(s, a, b);
            default -> x.list(s, a, b);
        }
    }
}
