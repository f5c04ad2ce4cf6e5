/** Promises 38 to 41: kinds, asks, and the trace of bodies. */
public final class AskTest {
    private static final Due due = new Due();
    /** Quarrel q is of kind q + 1, and 9 less q big. */
    private static final String ALL = "c5,9;r0,1,9;p0,9,0;t2,8,0;k2,7,0;b3,6,0;m4,5,0;";

    public static void main(String[] args) {
        kind();
        as();
        askSize();
        askMark();
        asksOfTheDead();
        trace();
        due.end();
    }

    private static void kind() {
        due.promise(38);
        GridQuarrels x = Due.told(ALL);
        for (int q = 0; q < 5; q++) {
            due.is("kind(" + q + ")", x.kind(q), q + 1);
        }
        due.is("kind(5)", x.kind(5), Due.BAD);
        due.is("kind(-1)", x.kind(-1), Due.BAD);
        due.is("kind(1) of one", Due.told("c2,0;r0,1,0;m0,1,0;").kind(1), Due.BAD);
    }

    private static void as() {
        due.promise(39);
        GridQuarrels x = Due.told(ALL);
        int[] kinds = {1, 1 | 2, 1 | 4, 8, 8 | 16};
        for (int q = 0; q < 5; q++) {
            due.is("as(" + q + ", 0)", x.as(q, 0), q);
            for (int kind = 1; kind <= 5; kind++) {
                boolean is = (kinds[q] >> kind - 1 & 1) == 1;
                due.is("as(" + q + ", " + kind + ")", x.as(q, kind), is ? q : Due.KIND);
            }
        }
        due.is("as(0, 6)", x.as(0, 6), Due.BAD);
        due.is("as(0, -1)", x.as(0, -1), Due.BAD);
        due.is("as(5, 0)", x.as(5, 0), Due.BAD);
        due.is("as(-1, 0)", x.as(-1, 0), Due.BAD);
    }

    private static void asked(GridQuarrels x, int one, int what, int answer, String bodies) {
        due.is("ask(" + one + ", " + what + ")", x.ask(one, what), answer);
        String trace = Due.trace(x);
        due.that("trace of ask(" + one + ", " + what + "): " + trace, trace.equals(bodies));
    }

    private static void askSize() {
        due.promise(40);
        GridQuarrels x = Due.told(ALL);
        asked(x, 0, 0, 9 + (0 + 0), "11 10 21 20");
        asked(x, 1, 0, -(8 + 2 * (1 + 2)), "12 11 10 24 21 20");
        asked(x, 2, 0, 7 + (2 + 2 - 1000), "11 10 22 21 20");
        asked(x, 3, 0, 6 - 100, "13 10");
        asked(x, 4, 0, 2 * (5 - 100), "14 13 10");
        due.is("ask(5, 0)", x.ask(5, 0), Due.BAD);
        due.is("ask(-1, 0)", x.ask(-1, 0), Due.BAD);
        due.is("ask(0, 2)", x.ask(0, 2), Due.BAD);
        due.is("ask(0, -1)", x.ask(0, -1), Due.BAD);
    }

    private static void askMark() {
        due.promise(40);
        GridQuarrels x = Due.told(ALL);
        asked(x, 0, 1, 0, "21 20");
        asked(x, 1, 1, 2 * (1 + 2), "24 21 20");
        asked(x, 2, 1, 2 + 2 - 1000, "22 21 20");
        asked(x, 3, 1, 3 - (6 - 100), "23 20 13 10");
        asked(x, 4, 1, 4 - 2 * (5 - 100), "23 20 14 13 10");
        x.drive(0, 0);
        asked(x, 0, 1, 1, "21 20");
        x.grow(3, 1);
        asked(x, 3, 1, 3 - (1 - 100), "23 20 13 10");
    }

    private static void asksOfTheDead() {
        due.promise(40);
        GridQuarrels x = Due.told("c3,0;r0,1,9;m0,1,0;p2,1,0;");
        x.years(1);
        asked(x, 1, 0, 0 + (1 + 2), "11 10 21 20");
    }

    private static void trace() {
        due.promise(41);
        GridQuarrels x = Due.told(ALL);
        due.is("ahead of an ask", x.trace(0), Due.NONE);
        x.ask(1, 0);
        due.is("trace(0)", x.trace(0), 12);
        due.is("trace(5)", x.trace(5), 20);
        due.is("trace(6)", x.trace(6), Due.NONE);
        due.is("trace(-1)", x.trace(-1), Due.NONE);
        due.is("trace(16)", x.trace(16), Due.NONE);
        x.ask(0, 7);
        due.is("what is refused changes nothing", x.trace(5), 20);
        x.ask(3, 0);
        due.is("empty ahead of the next", x.trace(2), Due.NONE);
        due.is("which leaves its own", x.trace(0), 13);
    }
}
