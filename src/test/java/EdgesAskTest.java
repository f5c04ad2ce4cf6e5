/** The boundary cases of promises 38 to 41: one test for each sentence. */
public final class EdgesAskTest {
    private static final Due due = new Due();
    private static final Twins twins = new Twins(due);
    private static final Twins.Past LEAST = x -> Due.tell(x, "c2,0;r0,1,0;m0,1,0;");
    /** By kinds: the kinds that each of them is, as bits 0 to 5. */
    private static final int[] IS = {0, 1 | 2, 1 | 2 | 4, 1 | 2 | 8, 1 | 16, 1 | 16 | 32};

    public static void main(String[] args) {
        kindNumbers();
        kindOfTheDead();
        asNumbers();
        asOfEveryKind();
        asOfTheDead();
        askNumbers();
        askOfEveryKindAndSize();
        askOfTheDead();
        askThatIsRefusedLeavesTheTrace();
        traceBeforeAnAsk();
        traceNumbers();
        traceIsEmptyAheadOfAnAsk();
        traceStaysByOtherCalls();
        due.end();
    }

    private static void kindNumbers() {
        due.promise(38);
        new Bounds(due, "kind", LEAST, (x, n) -> x.kind(n[0]), 0).number(0, 0, 0);
        new Bounds(due, "kind", Twins.RICH, (x, n) -> x.kind(n[0]), 0).number(0, 0, 4);
        new Bounds(due, "kind", Twins.BRIM, (x, n) -> x.kind(n[0]), 0).number(0, 0, 1);
        for (int q = 0; q < 5; q++) {
            int one = q;
            twins.tells("kind(" + q + ")", Twins.RICH, x -> x.kind(one), q + 1);
        }
    }

    private static void kindOfTheDead() {
        due.promise(38);
        twins.tells("kind(3) of a dead one", Twins.RICH, x -> x.kind(3), 4);
        twins.tells("kind(1) of a dead one", Twins.BRIM, x -> x.kind(1), 1);
    }

    private static void asNumbers() {
        due.promise(39);
        new Bounds(due, "as", LEAST, (x, n) -> x.as(n[0], n[1]), 0, 0).number(0, 0, 0).number(1, 0, 5);
        new Bounds(due, "as", Twins.RICH, (x, n) -> x.as(n[0], n[1]), 0, 0).number(0, 0, 4).number(1, 0, 5);
        twins.refuses("BAD ahead of KIND: as(5, 5)", Twins.RICH, x -> x.as(5, 5), Due.BAD);
        twins.refuses("BAD ahead of KIND: as(-1, 2)", Twins.RICH, x -> x.as(-1, 2), Due.BAD);
    }

    private static void asOfEveryKind() {
        due.promise(39);
        for (int q = 0; q < 5; q++) {
            for (int k = 0; k <= 5; k++) {
                int one = q, kind = k;
                String call = "as(" + q + ", " + k + ")";
                if ((IS[q + 1] >> k & 1) == 1) {
                    twins.tellsOfRow(call, Twins.RICH, x -> x.as(one, kind), q);
                } else {
                    twins.refuses(call, Twins.RICH, x -> x.as(one, kind), Due.KIND);
                }
            }
        }
    }

    private static void asOfTheDead() {
        due.promise(39);
        twins.tellsOfRow("as(3, 4) of a dead one", Twins.RICH, x -> x.as(3, 4), 3);
        twins.refuses("as(3, 5) of a dead one", Twins.RICH, x -> x.as(3, 5), Due.KIND);
    }

    private static void askNumbers() {
        due.promise(40);
        new Bounds(due, "ask", LEAST, (x, n) -> x.ask(n[0], n[1]), 0, 0).number(0, 0, 0).number(1, 0, 1);
        new Bounds(due, "ask", Twins.RICH, (x, n) -> x.ask(n[0], n[1]), 0, 0).number(0, 0, 4).number(1, 0, 1);
        new Bounds(due, "ask", Twins.BRIM, (x, n) -> x.ask(n[0], n[1]), 0, 0).number(0, 0, 1).number(1, 0, 1);
    }

    private static int mark(int kind, int number, int at, int size) {
        switch (kind) {
            case 1: return number + at;
            case 2: return 2 * (number + at);
            case 3: return number + at - 1000;
            default: return number - size(kind, number, at, size);
        }
    }

    private static int size(int kind, int number, int at, int size) {
        switch (kind) {
            case 2: return -(size + mark(kind, number, at, size));
            case 4: return size - 100;
            case 5: return 2 * (size - 100);
            default: return size + mark(kind, number, at, size);
        }
    }

    /** The bodies, by kinds: those of SIZE, then those of MARK. */
    private static final String[][] BODIES = {
        {}, {"11 10 21 20", "21 20"}, {"12 11 10 24 21 20", "24 21 20"}, {"11 10 22 21 20", "22 21 20"},
        {"13 10", "23 20 13 10"}, {"14 13 10", "23 20 14 13 10"}
    };

    private static void asked(GridQuarrels x, int kind, int number, int at, int size) {
        String of = "kind " + kind + ", number " + number + ", in " + at + ", size " + size;
        due.is("SIZE of " + of, x.ask(number, 0), size(kind, number, at, size));
        due.that("bodies of SIZE of " + of, Due.trace(x).equals(BODIES[kind][0]));
        due.is("MARK of " + of, x.ask(number, 1), mark(kind, number, at, size));
        due.that("bodies of MARK of " + of, Due.trace(x).equals(BODIES[kind][1]));
    }

    private static void askOfEveryKindAndSize() {
        due.promise(40);
        for (int kind = 1; kind <= 5; kind++) {
            for (int number = 0; number < 5; number++) {
                for (int at = 0; at < 7; at += 3) {
                    for (int size = 1; size <= 9; size += 4) {
                        String one = "ptkbm".charAt(kind - 1) + "" + at + "," + size + ",0;";
                        asked(Due.told("c7,0;r0,1,0;" + "m0,1,0;".repeat(number) + one), kind, number, at, size);
                    }
                }
            }
        }
    }

    private static void askOfTheDead() {
        due.promise(40);
        for (int kind = 1; kind <= 4; kind++) {
            GridQuarrels x = Due.told("c7,0;r0,1,0;m0,1,0;" + "ptkb".charAt(kind - 1) + "6,1,0;");
            x.years(1);
            due.is("it is dead", x.quarrel(1, 1), 0);
            asked(x, kind, 1, 6, 0);
        }
    }

    private static void askThatIsRefusedLeavesTheTrace() {
        due.promise(40);
        int[][] refused = {{5, 0}, {-1, 0}, {0, 2}, {0, -1}, {5, 2}, {Integer.MAX_VALUE, 0}, {0, Integer.MIN_VALUE}};
        for (int[] call : refused) {
            GridQuarrels x = Twins.made(Twins.RICH);
            due.is("ask(" + call[0] + ", " + call[1] + ")", x.ask(call[0], call[1]), Due.BAD);
            due.that("the trace is as it was", Due.trace(x).equals("12 11 10 24 21 20"));
        }
    }

    private static void traceBeforeAnAsk() {
        due.promise(41);
        int[] numbers = {Integer.MIN_VALUE, -1, 0, 1, 15, 16, Integer.MAX_VALUE};
        for (int i : numbers) {
            twins.tells("trace(" + i + ") of a new object", Twins.BARE, x -> x.trace(i), Due.NONE);
            twins.tells("trace(" + i + ") of no ask", LEAST, x -> x.trace(i), Due.NONE);
        }
    }

    private static void traceNumbers() {
        due.promise(41);
        int[] bodies = {12, 11, 10, 24, 21, 20};
        for (int i = 0; i < 6; i++) {
            int at = i;
            twins.tells("trace(" + i + ")", Twins.RICH, x -> x.trace(at), bodies[i]);
        }
        int[] beyond = {6, 7, 15, 16, 17, 1000, Integer.MAX_VALUE, -1, -2, -16, Integer.MIN_VALUE};
        for (int i : beyond) {
            twins.tells("trace(" + i + ")", Twins.RICH, x -> x.trace(i), Due.NONE);
        }
    }

    private static void traceIsEmptyAheadOfAnAsk() {
        due.promise(41);
        GridQuarrels x = Twins.made(Twins.RICH);
        for (int n = 0; n < 5; n++) {
            x.ask(1, 0);
            due.that("six bodies", Due.trace(x).equals("12 11 10 24 21 20"));
            x.ask(3, 0);
            due.that("two bodies", Due.trace(x).equals("13 10"));
            due.is("trace(2)", x.trace(2), Due.NONE);
        }
    }

    private static void traceStaysByOtherCalls() {
        due.promise(41);
        GridQuarrels x = Twins.made(Twins.RICH);
        x.years(1);
        x.undo();
        x.restore(0);
        x.as(0, 1);
        x.kind(0);
        x.drop(0);
        due.is("another county", x.county(), 2);
        due.that("the trace stays until the next ask", Due.trace(x).equals("12 11 10 24 21 20"));
    }
}
