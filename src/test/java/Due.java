/** Counts the answers that are not as due, and ends a test by them. */
final class Due {
    static final int NONE = -1000000, BAD = -1000001, STATE = -1000002, FULL = -1000003;
    static final int NULL = -1000011, PLACE = -1000012, KIND = -1000013, SIZE = -1000014, STORE = -1000015;

    private int wrong;
    private int seen;
    private String promise = "";

    void promise(int number) {
        promise = "promise " + number + ": ";
    }

    void is(String call, long got, long want) {
        seen++;
        if (got != want) {
            wrong++;
            System.out.println(promise + call + " answered " + got + ", due is " + want);
        }
    }

    void that(String what, boolean holds) {
        is(what, holds ? 1 : 0, 1);
    }

    void end() {
        System.out.println(wrong == 0 ? seen + " answers are as due" : wrong + " answers are not as due");
        if (wrong != 0) {
            System.exit(1);
        }
    }

    /** Feeds a text and has it read. */
    static int tell(GridQuarrels x, String text) {
        for (int i = 0; i < text.length(); i++) {
            x.feed(text.charAt(i));
        }
        return x.county();
    }

    /** A new object with a county that has no fault. */
    static GridQuarrels told(String text) {
        GridQuarrels x = new GridQuarrels();
        int answer = tell(x, text);
        if (answer < 0) {
            throw new IllegalStateException(text + " has a fault: " + answer);
        }
        return x;
    }

    /** Makes a row of ints with these items. */
    static void fill(GridQuarrels x, int row, int... items) {
        x.row(row, 2, items.length);
        for (int i = 0; i < items.length; i++) {
            x.set(row, i, items[i]);
        }
    }

    /** The trace as it is now, with spaces between. */
    static String trace(GridQuarrels x) {
        StringBuilder all = new StringBuilder();
        for (int i = 0; x.trace(i) != NONE; i++) {
            all.append(i == 0 ? "" : " ").append(x.trace(i));
        }
        return all.toString();
    }
}
