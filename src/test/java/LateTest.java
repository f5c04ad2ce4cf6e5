/**
 * Late in an object's life, up to its 512th call: every call as the last of a life full of all the others, and
 * lives that have much of one thing.
 */
public final class LateTest {
    private static final Due due = new Due();
    private static final String TEXT = "c4,1;r0,1,2;r1,2,4;r2,3,0;r3,0,9;p0,3,2;t1,2,1;k2,1,0;b3,5,3;m0,1,1;";
    private static final String LEAST = "c2,0;r0,1,9;m0,1,0;";

    /** All that a life is spent with: every call, refusals, findings and faults among them. */
    private static final String[] ALL = {
        "hay(0, 9)", "row(0, 0, 40)", "set(0, 39, 200)", "row(1, 0, 7)", "copy(0, 33, 1, 0, 7)", "copy(0, 0, 1, 0, 8)",
        "years(3)", "drop(1)", "row(5, 1, -1)", "grid(0, 0)", "drive(4, 0)", "grow(0, 9)", "hay(3, 10)", "undo()",
        "image(0)", "years(24)", "quarrel(1, 4)", "road(3, 2)", "parish(2, 1)", "ahead(0, 60, 1)", "restore(0)",
        "hayAhead(1, 60)", "dies(0)", "comes(0, 3)", "meet(0, 1)", "hay(1, 9)", "grazed(60)", "shuts(1, 30, 1)",
        "lures(0, 2, 30, 1)", "starve(0, 1)", "way(0, 2)", "reach(1)", "home()", "fed(60, 0)", "row(2, 2, 12)",
        "who(0, 0, 2, 0, 12)", "who(1, 1, 0, 28, 12)", "who(4, 2, 2, 1, 12)", "grids(1, 0, 2, 0, 12)", "which(2, 0, 12)",
        "snow(0, 1, 30, 3, 0)", "drawn(60, 999999, 1)", "kind(4)", "as(3, 5)", "ask(1, 0)", "trace(5)", "count(5)",
        "status()", "row(7, 2, 40)", "set(7, 39, -1)", "years(24)", "years(24)", "undo()", "undo()", "grow(1, 1)",
        "feed(99)", "feed(255)", "county()", "fault()", "drop(7)", "row(6, 1, 3)", "ask(4, 1)"
    };
    /** Whatever stood ahead of them, these calls leave no row and no byte on the tape. */
    private static final String[] CLEARED = {
        "county()", "drop(0)", "drop(1)", "drop(2)", "drop(3)", "drop(4)", "drop(5)", "drop(6)", "drop(7)"
    };
    /**
     * Quarrels in 0, 1, 2 (dead), 3, 1, of sizes 6, 2, 0, 5, 1; hay 7, 2, 5, 0; grids 2, 4, 0, 7; 9 acts; an image
     * from ahead of the last two; rows 1 1 0 0 (ints), 0 0 0 (bytes), none (shorts); a byte on the tape; a finding.
     */
    private static final String[] DONE = {
        "years(1)", "grow(2, 1)", "years(1)", "hay(0, 7)", "hay(1, 2)", "hay(2, 5)", "grid(3, 7)", "image(0)", "grow(0, 6)",
        "drive(4, 0)", "row(0, 2, 4)", "set(0, 0, 1)", "set(0, 1, 1)", "row(1, 0, 3)", "row(2, 1, 0)", "ask(1, 0)",
        "as(0, 5)", "feed(99)"
    };

    public static void main(String[] args) {
        rowsAsTheLast();
        textsAsTheLast();
        actsAsTheLast();
        standingAsTheLast();
        foretoldAsTheLast();
        soughtAsTheLast();
        fitsAsTheLast();
        chancesAsTheLast();
        imagesAsTheLast();
        asksAsTheLast();

        actsOfALife();
        actsOfEveryKindOfALife();
        yearsOfALife();
        hayOfALife();
        tapesOfALife();
        countiesOfALife();
        faultOfALife();
        rowsOfALife();
        itemsOfALife();
        statusOfALife();
        imagesOfALife();
        tracesOfALife();
        foretoldOfALife();
        due.end();
    }

    private static void past(Life life) {
        life.calls(CLEARED);
        life.tell("c9");
        life.tell(TEXT);
        life.calls(DONE);
    }

    private static Life young() {
        Life life = new Life(due);
        past(life);
        return life;
    }

    /** One with the same past as a young one, but with all the calls ahead of it that a life has room for. */
    private static Life old(int left) {
        Life life = new Life(due);
        life.tell(TEXT);
        life.spend(left + young().calls(), ALL);
        past(life);
        return life;
    }

    /** The call is the 512th; a young object has the same answer. */
    private static void last(String call, long want) {
        young().is(call, want);
        Life life = old(1);
        life.is(call, want);
        due.is("calls left", life.left(), 0);
    }

    /** The call is the 511th, so that what it changed is seen by the 512th. */
    private static void lastButOne(String call, long want, String seenBy, long seen) {
        Life life = old(2);
        life.is(call, want);
        life.is(seenBy, seen);
        due.is("calls left", life.left(), 0);
    }

    private static void rowsAsTheLast() {
        due.promise(2);
        last("row(3, 2, 40)", 40);
        last("row(0, 1, 0)", 0);
        last("row(0, 1, -1)", Due.SIZE);
        last("row(0, 1, 41)", Due.BAD);
        last("row(0, 3, 1)", Due.BAD);
        last("row(8, 0, -1)", Due.BAD);
        lastButOne("row(0, 0, 2)", 2, "which(0, 0, 2)", 3);
        lastButOne("row(4, 0, 2)", 2, "count(0)", 4);
        due.promise(3);
        last("set(1, 2, 200)", -56);
        last("set(1, 0, 128)", -128);
        last("set(0, 3, -2147483648)", Integer.MIN_VALUE);
        last("set(0, 4, 1)", Due.PLACE);
        last("set(2, 0, 1)", Due.PLACE);
        last("set(3, 0, 1)", Due.NULL);
        last("set(-1, 0, 0)", Due.BAD);
        lastButOne("set(0, 1, 0)", 0, "which(0, 1, 3)", 3);
        due.promise(4);
        last("copy(0, 0, 0, 1, 3)", 3);
        last("copy(1, 3, 1, 3, 0)", 0);
        last("copy(0, 0, 1, 0, 5)", Due.STORE);
        last("copy(0, 0, 3, 0, 0)", Due.NULL);
        last("copy(0, 2, 0, 0, 3)", Due.PLACE);
        last("copy(0, 0, 0, 0, -1)", Due.PLACE);
        last("copy(0, 0, 8, 0, 1)", Due.BAD);
        lastButOne("copy(0, 2, 0, 0, 2)", 2, "which(0, 0, 4)", 3);
        due.promise(5);
        last("drop(1)", 3);
        last("drop(2)", 0);
        last("drop(3)", Due.NULL);
        last("drop(8)", Due.BAD);
        lastButOne("drop(1)", 3, "drop(1)", Due.NULL);
    }

    private static void textsAsTheLast() {
        due.promise(6);
        last("feed(0)", 2);
        last("feed(255)", 2);
        last("feed(256)", Due.BAD);
        last("feed(-1)", Due.BAD);
        lastButOne("feed(50)", 2, "county()", -1000102);
        due.promise(7);
        last("county()", -1000101);
        lastButOne("county()", -1000101, "count(7)", 0);
        lastButOne("county()", -1000101, "count(6)", 9);
        due.promise(8);
        last("fault()", 2);
        lastButOne("county()", -1000101, "fault()", 1);
    }

    private static void actsAsTheLast() {
        due.promise(9);
        last("undo()", 8);
        lastButOne("undo()", 8, "quarrel(4, 0)", 0);
        lastButOne("undo()", 8, "undo()", 7);
        due.promise(10);
        last("years(1)", 4);
        last("years(24)", 1);
        last("years(0)", Due.BAD);
        last("years(25)", Due.BAD);
        lastButOne("years(24)", 1, "count(6)", 24);
        lastButOne("years(3)", 4, "quarrel(4, 0)", 0);
        due.promise(11);
        last("hay(3, 9)", 9);
        last("hay(0, 1)", 8);
        last("hay(0, 10)", Due.BAD);
        last("hay(4, 1)", Due.BAD);
        lastButOne("hay(2, 9)", 14, "quarrel(1, 4)", 2);
        due.promise(12);
        last("grid(3, 0)", 7);
        last("grid(0, 10)", Due.BAD);
        last("grid(4, 0)", Due.BAD);
        lastButOne("grid(3, 5)", 7, "quarrel(0, 3)", 9);
        due.promise(13);
        last("drive(0, 3)", 3);
        last("drive(4, 1)", 2);
        last("drive(0, 1)", Due.STATE);
        last("drive(2, 1)", Due.STATE);
        last("drive(5, 0)", Due.BAD);
        lastButOne("drive(3, 2)", 2, "parish(2, 1)", 8);
        due.promise(14);
        last("grow(0, 9)", 6);
        last("grow(2, 1)", Due.STATE);
        last("grow(2, 10)", Due.BAD);
        last("grow(0, 0)", Due.BAD);
        lastButOne("grow(1, 1)", 2, "quarrel(1, 3)", 1);
    }

    private static void standingAsTheLast() {
        due.promise(15);
        int[][] quarrels = {{0, 6, 2, 1, 0}, {1, 2, 1, 3, 0}, {2, 0, 0, 0, 2}, {3, 5, 3, 4, 2}, {1, 1, 1, 0, 1}};
        for (int q = 0; q < 5; q++) {
            for (int what = 0; what < 5; what++) {
                last("quarrel(" + q + ", " + what + ")", quarrels[q][what]);
            }
        }
        last("quarrel(0, 5)", Due.BAD);
        last("quarrel(5, 0)", Due.BAD);
        due.promise(16);
        int[][] roads = {{0, 1, 2}, {1, 2, 4}, {2, 3, 0}, {3, 0, 7}};
        int[][] parishes = {{7, 1, 9}, {2, 18, 3}, {5, 0, 6}, {0, 8, 12}};
        for (int i = 0; i < 4; i++) {
            for (int what = 0; what < 3; what++) {
                due.promise(16);
                last("road(" + i + ", " + what + ")", roads[i][what]);
                due.promise(17);
                last("parish(" + i + ", " + what + ")", parishes[i][what]);
            }
        }
        due.promise(16);
        last("road(4, 0)", Due.BAD);
        last("road(0, 3)", Due.BAD);
        due.promise(17);
        last("parish(4, 0)", Due.BAD);
        last("parish(0, -1)", Due.BAD);
        due.promise(42);
        int[] counts = {3, 4, 4, 5, 2, 14, 9, 1, Due.BAD};
        for (int what = 0; what < counts.length; what++) {
            last("count(" + what + ")", counts[what]);
        }
        due.promise(43);
        last("status()", 3);
        lastButOne("as(0, 6)", Due.BAD, "status()", 3);
        lastButOne("who(2, 0, 0, 0, 1)", Due.STATE, "status()", 3);
        lastButOne("drop(5)", Due.NULL, "status()", 1);
        lastButOne("set(0, 4, 1)", Due.PLACE, "status()", 2);
        lastButOne("row(0, 1, -1)", Due.SIZE, "status()", 4);
        lastButOne("copy(0, 0, 1, 0, 1)", Due.STORE, "status()", 5);
        lastButOne("which(0, 0, 4)", 16, "status()", 0);
    }

    private static void foretoldAsTheLast() {
        due.promise(18);
        last("ahead(4, 0, 0)", 1);
        last("ahead(4, 3, 0)", 0);
        last("ahead(4, 3, 1)", 4);
        last("ahead(1, 60, 0)", 0);
        last("ahead(1, 60, 1)", 0);
        last("ahead(1, 61, 0)", Due.BAD);
        due.promise(19);
        last("hayAhead(0, 1)", 5);
        last("hayAhead(2, 4)", 1);
        last("hayAhead(2, 60)", 0);
        last("hayAhead(4, 1)", Due.BAD);
        due.promise(20);
        long[] deaths = {12, 8, 0, 14, Due.NONE, Due.BAD};
        for (int q = 0; q < deaths.length; q++) {
            last("dies(" + q + ")", deaths[q]);
        }
        due.promise(21);
        last("comes(4, 0)", 3);
        last("comes(0, 0)", 0);
        last("comes(0, 3)", Due.NONE);
        last("comes(2, 2)", Due.NONE);
        last("comes(0, 4)", Due.BAD);
        due.promise(22);
        last("meet(1, 4)", 0);
        last("meet(4, 0)", 3);
        last("meet(0, 3)", Due.NONE);
        last("meet(2, 3)", Due.NONE);
        last("meet(3, 3)", Due.BAD);
        due.promise(23);
        last("grazed(1)", 7);
        last("grazed(60)", 7);
        last("grazed(61)", Due.BAD);
        due.promise(29);
        last("home()", 26);
        due.promise(30);
        last("fed(60, 0)", 3);
        last("fed(60, 1)", 5);
        last("fed(3, 0)", 0);
        last("fed(3, 1)", 3);
        last("fed(0, 0)", Due.BAD);
    }

    private static void soughtAsTheLast() {
        due.promise(24);
        last("shuts(0, 30, 0)", 1);
        last("shuts(0, 30, 1)", 1);
        last("shuts(2, 30, 0)", 1);
        last("shuts(2, 30, 1)", 4);
        last("shuts(3, 30, 1)", 0);
        last("shuts(3, 31, 1)", Due.BAD);
        due.promise(25);
        last("lures(0, 1, 1, 1)", 2);
        last("lures(0, 2, 2, 0)", 2);
        last("lures(0, 2, 2, 1)", 6);
        last("lures(4, 0, 3, 0)", 0);
        last("lures(3, 0, 1, 0)", Due.NONE);
        last("lures(2, 2, 30, 1)", Due.NONE);
        last("lures(0, 1, 0, 0)", Due.BAD);
        due.promise(26);
        last("starve(0, 0)", 0);
        last("starve(0, 1)", 10);
        last("starve(3, 0)", 2);
        last("starve(3, 1)", 5);
        last("starve(2, 0)", Due.NONE);
        last("starve(4, 1)", Due.NONE);
        last("starve(4, 2)", Due.BAD);
        due.promise(27);
        last("way(0, 0)", 0);
        last("way(0, 3)", 3);
        last("way(4, 0)", Due.NONE);
        last("way(2, 0)", Due.STATE);
        last("way(2, 4)", Due.BAD);
        due.promise(28);
        last("reach(0)", 15);
        last("reach(4)", 2);
        last("reach(2)", Due.STATE);
        last("reach(5)", Due.BAD);
    }

    private static void fitsAsTheLast() {
        due.promise(31);
        last("who(4, 0, 0, 0, 4)", 50);
        last("who(4, 1, 0, 0, 4)", 6);
        last("who(4, 2, 0, 0, 4)", 2);
        last("who(2, 0, 0, 0, 4)", Due.STATE);
        last("who(2, 3, 0, 0, 4)", Due.BAD);
        last("who(4, 0, 0, 0, 13)", Due.BAD);
        last("who(4, 0, 3, 0, 1)", Due.NULL);
        last("who(4, 0, 0, 1, 4)", Due.PLACE);
        due.promise(32);
        last("grids(0, 4, 0, 0, 4)", 7);
        last("grids(1, 4, 0, 0, 4)", 1016);
        last("grids(0, 2, 0, 0, 4)", 0);
        last("grids(4, 0, 0, 0, 4)", Due.BAD);
        last("grids(0, 0, 3, 0, 1)", Due.NULL);
        last("grids(0, 0, 2, 0, 1)", Due.PLACE);
        due.promise(33);
        last("which(0, 0, 4)", 16);
        last("which(1, 0, 3)", 3);
        last("which(0, 4, 1)", Due.PLACE);
        last("which(3, 0, 1)", Due.NULL);
        last("which(0, 0, 0)", Due.BAD);
    }

    private static void chancesAsTheLast() {
        due.promise(34);
        last("snow(4, 2, 3, 3, 0)", 3);
        last("snow(4, 2, 3, 3, 1)", 10);
        last("snow(4, 0, 3, 5, 0)", 1);
        last("snow(4, 0, 3, 5, 1)", 2);
        last("snow(4, 2, 0, 3, 0)", 0);
        last("snow(4, 2, 0, 3, 1)", 1);
        last("snow(4, 2, 3, 10, 0)", 1);
        last("snow(4, 2, 31, 3, 0)", Due.BAD);
        due.promise(35);
        last("drawn(0, 1, 0)", 4);
        last("drawn(0, 1, 1)", 0);
        last("drawn(1, 1, 0)", 4);
        last("drawn(1, 1, 1)", 1);
        last("drawn(1, 0, 0)", Due.BAD);
        last("drawn(1, 1000000, 0)", Due.BAD);
    }

    private static void imagesAsTheLast() {
        due.promise(36);
        last("image(0)", 1);
        last("image(1)", 1);
        last("image(2)", Due.BAD);
        lastButOne("image(1)", 1, "restore(1)", 1);
        due.promise(37);
        last("restore(0)", 1);
        last("restore(1)", Due.STATE);
        last("restore(-1)", Due.BAD);
        lastButOne("restore(0)", 1, "quarrel(0, 1)", 3);
        lastButOne("restore(0)", 1, "quarrel(4, 0)", 0);
        lastButOne("restore(0)", 1, "count(6)", 0);
        lastButOne("restore(0)", 1, "count(5)", 14);
    }

    private static void asksAsTheLast() {
        due.promise(38);
        for (int q = 0; q < 5; q++) {
            last("kind(" + q + ")", q + 1);
        }
        last("kind(5)", Due.BAD);
        due.promise(39);
        last("as(1, 1)", 1);
        last("as(2, 0)", 2);
        last("as(1, 3)", Due.KIND);
        last("as(3, 5)", Due.KIND);
        last("as(0, 6)", Due.BAD);
        due.promise(40);
        int[][] asks = {{6, 0}, {-6, 4}, {-996, -996}, {-95, 98}, {-198, 202}};
        for (int q = 0; q < 5; q++) {
            last("ask(" + q + ", 0)", asks[q][0]);
            last("ask(" + q + ", 1)", asks[q][1]);
        }
        last("ask(0, 2)", Due.BAD);
        lastButOne("ask(4, 1)", 202, "trace(4)", 10);
        lastButOne("ask(4, 1)", 202, "trace(5)", Due.NONE);
        due.promise(41);
        int[] bodies = {12, 11, 10, 24, 21, 20, Due.NONE};
        for (int i = 0; i < bodies.length; i++) {
            last("trace(" + i + ")", bodies[i]);
        }
        last("trace(-1)", Due.NONE);
    }

    /** Far more acts than are kept: the latest 24 are undone, the 512th call finds none. */
    private static void actsOfALife() {
        due.promise(9);
        Life life = new Life(due);
        life.tell(LEAST);
        for (int act = 0; life.left() > 2 * 24 + 1; act++) {
            life.is("grid(0, " + act % 10 + ")", act == 0 ? 9 : (act - 1) % 10);
        }
        long grid = life.call("road(0, 2)");
        for (int left = 23; left > 0; left--) {
            grid = (grid + 9) % 10;
            life.is("undo()", left);
            life.is("road(0, 2)", grid);
        }
        life.is("undo()", 0);
        life.is("undo()", Due.STATE);
        due.is("calls left", life.left(), 0);
    }

    /** One act of each kind, undone, again and again: what is undone late is undone wholly. */
    private static void actsOfEveryKindOfALife() {
        due.promise(9);
        Life life = new Life(due);
        life.tell("c2,3;r0,1,2;p0,4,1;");
        while (life.left() >= 14) {
            life.is("hay(1, 4)", 7);
            life.is("grid(0, 3)", 2);
            life.is("grow(0, 5)", 4);
            life.is("drive(0, 0)", 1);
            life.is("years(1)", 1);
            life.is("count(5)", 9);
            for (int left = 4; left >= 0; left--) {
                life.is("undo()", left);
            }
            life.is("quarrel(0, 0)", 0);
            life.is("quarrel(0, 1)", 4);
            life.is("count(5)", 6);
        }
        while (life.left() > 1) {
            life.is("road(0, 2)", 2);
        }
        life.is("undo()", Due.STATE);
    }

    /** YEAR 999 is come to, undone and come to again; the 512th call is refused. */
    private static void yearsOfALife() {
        due.promise(10);
        Life life = new Life(due);
        life.tell(LEAST);
        for (int n = 0; n < 41; n++) {
            life.is("years(24)", 1);
        }
        life.is("count(4)", 984);
        life.is("years(16)", Due.FULL);
        life.is("years(15)", 1);
        while (life.left() > 60) {
            life.is("count(4)", 999);
            life.is("years(1)", Due.FULL);
            life.is("undo()", 23);
            life.is("years(2)", Due.FULL);
            life.is("years(1)", 1);
        }
        for (int left = 23; left >= 0; left--) {
            life.is("undo()", left);
        }
        life.is("count(4)", 975);
        life.is("years(25)", Due.BAD);
        life.is("years(24)", 1);
        while (life.left() > 1) {
            life.is("count(4)", 999);
        }
        life.is("years(1)", Due.FULL);
    }

    /** Hay is put until 99 lie there, eaten by years, and put again. */
    private static void hayOfALife() {
        due.promise(11);
        Life life = new Life(due);
        life.tell(LEAST);
        int lies = 0;
        while (life.left() > 2) {
            int more = life.left() % 9 + 1;
            lies = Math.min(99, lies + more);
            life.is("hay(0, " + more + ")", lies);
            if (lies == 99 && life.left() > 3) {
                life.is("years(5)", 1);
                life.is("parish(0, 0)", 94);
                lies = 94;
            }
        }
        life.spend(1, "quarrel(0, 1)");
        life.is("parish(0, 0)", lies);
    }

    /** The tape is filled to its end four times, read each time, and takes a whole text then. */
    private static void tapesOfALife() {
        due.promise(6);
        Life life = new Life(due);
        String full = "c2," + ";".repeat(117);
        for (int n = 0; n < 4; n++) {
            for (int i = 0; i < 120; i++) {
                life.is("feed(" + (int) full.charAt(i) + ")", i + 1);
            }
            life.is("feed(59)", Due.FULL);
            life.is("county()", -1000103);
        }
        due.is("the text", life.tell(LEAST), 1);
        life.is("count(7)", 0);
        life.is("feed(300)", Due.BAD);
        life.is("feed(0)", 1);
        life.is("count(7)", 1);
        due.is("calls left", life.left(), 0);
    }

    /** One county behind another: of each nothing stays but what the next one tells. */
    private static void countiesOfALife() {
        due.promise(7);
        Life life = new Life(due);
        while (life.left() > 150) {
            due.is("five", life.tell(TEXT), 5);
            life.calls("years(9)", "hay(3, 9)", "grid(3, 0)");
            due.is("one", life.tell(LEAST), 1);
            life.is("count(1)", 2);
            life.is("count(2)", 1);
            life.is("count(4)", 0);
            life.is("count(5)", 0);
            life.is("count(6)", 0);
            life.is("undo()", Due.STATE);
            life.is("road(0, 2)", 9);
            life.is("quarrel(1, 0)", Due.BAD);
            life.is("parish(2, 0)", Due.BAD);
        }
        life.spend(TEXT.length() + 2, "hay(1, 9)", "years(1)");
        due.is("five at last", life.tell(TEXT), 5);
        life.is("dies(0)", 5);
        due.is("calls left", life.left(), 0);
    }

    /** The fault of the first text is told until there is another. */
    private static void faultOfALife() {
        due.promise(8);
        Life life = new Life(due);
        life.is("fault()", 0);
        due.is("a number", life.tell("c8"), -1000101);
        due.is("a good one", life.tell(LEAST), 1);
        life.spend(3, "fault()", "years(1)", "undo()", "feed(256)", "row(0, 0, 41)");
        life.is("fault()", 2);
        life.is("county()", -1000100);
        life.is("fault()", 1);
    }

    /** Rows of all lanes, made and dropped: what was in one is not in the next. */
    private static void rowsOfALife() {
        due.promise(2);
        Life life = new Life(due);
        int v = 4097480;
        int[] kept = {(byte) v, (short) v, v};
        for (int n = 0; life.left() >= 8; n++) {
            int row = n % 8, lane = n % 3, items = 40 - n % 7;
            String last = row + ", " + (items - 1);
            life.is("row(" + row + ", " + lane + ", " + items + ")", items);
            life.is("set(" + last + ", " + v + ")", kept[lane]);
            life.is("set(" + row + ", " + items + ", 1)", Due.PLACE);
            life.is("copy(" + last + ", " + row + ", 0, 1)", 1);
            life.is("count(0)", 1);
            life.is("drop(" + row + ")", items);
            life.is("copy(" + last + ", " + row + ", 0, 1)", Due.NULL);
        }
        life.spend(1, "status()");
        life.is("count(0)", 0);
    }

    /** A row's items are 0 again whenever it is made, and stay as they are set else. */
    private static void itemsOfALife() {
        due.promise(3);
        Life life = new Life(due);
        life.tell("c5,0;r0,1,9;m0,1,0;m1,1,0;m2,1,0;m3,1,0;m4,1,0;");
        life.is("row(7, 2, 40)", 40);
        for (int i = 0; i < 40; i++) {
            life.is("set(7, " + i + ", " + (i * 7 % 6) + ")", i * 7 % 6);
        }
        while (life.left() > 48) {
            life.is("row(6, 2, 40)", 40);
            life.is("which(6, 0, 12)", 1);
            life.is("copy(7, 0, 6, 0, 40)", 40);
            life.is("copy(6, 0, 6, 1, 39)", 39);
            life.is("which(6, 39, 1)", 1 << 38 * 7 % 6 & 31);
            life.is("copy(6, 1, 6, 0, 39)", 39);
            life.is("which(6, 7, 1)", 1 << 7 * 7 % 6 & 31);
        }
        life.spend(40, "row(6, 2, -1)");
        for (int i = 0; i < 40; i++) {
            life.is("which(7, " + i + ", 1)", 1 << i * 7 % 6 & 31);
        }
        due.is("calls left", life.left(), 0);
    }

    /** The finding of the first call is told by the last: no call between them had a row, or was taken. */
    private static void statusOfALife() {
        due.promise(43);
        Life life = new Life(due);
        life.is("drop(0)", Due.NULL);
        life.tell(TEXT);
        life.spend(2, "years(1)", "row(8, 0, 0)", "which(0, 0, 13)", "hay(0, 10)", "status()", "as(5, 0)", "snow(0, 1, 3, 3, 0)",
            "undo()", "undo()", "image(0)", "restore(1)", "restore(0)", "ask(0, 0)", "kind(0)", "who(0, 3, 0, 0, 1)");
        life.is("status()", 1);
        life.is("status()", 1);
        due.is("calls left", life.left(), 0);
    }

    /** An image of the first years is as it was, whatever came behind it, another county, too. */
    private static void imagesOfALife() {
        due.promise(37);
        Life life = new Life(due);
        life.tell(TEXT);
        life.is("years(1)", 5);
        life.is("image(1)", 1);
        life.spend(60, "years(24)", "hay(0, 9)", "grid(1, 0)", "image(0)", "drive(4, 0)", "grow(4, 9)", "restore(0)");
        due.is("another county", life.tell(LEAST), 1);
        life.is("years(24)", 1);
        life.is("image(0)", 1);
        life.spend(12, "count(1)");
        life.is("restore(1)", 1);
        life.is("count(1)", 4);
        life.is("count(3)", 5);
        life.is("count(4)", 1);
        life.is("count(5)", 0);
        life.is("count(6)", 0);
        life.is("quarrel(2, 1)", 3);
        life.is("quarrel(4, 0)", 0);
        life.is("road(1, 2)", 4);
        life.is("restore(0)", 1);
        life.is("count(4)", 24);
        life.is("quarrel(1, 0)", Due.BAD);
        due.is("calls left", life.left(), 0);
    }

    /** Some hundred asks: the trace is that of the latest, however many bodies began in all. */
    private static void tracesOfALife() {
        due.promise(41);
        Life life = new Life(due);
        life.tell(TEXT);
        int[] bodies = {12, 11, 10, 24, 21, 20, Due.NONE};
        while (life.left() > 12) {
            life.is("ask(3, 1)", 3 - (5 - 100));
            life.is("trace(3)", 10);
            life.is("trace(4)", Due.NONE);
            life.is("ask(1, 0)", -6);
        }
        life.spend(7, "years(1)");
        for (int i = 0; i < bodies.length; i++) {
            life.is("trace(" + i + ")", bodies[i]);
        }
        due.is("calls left", life.left(), 0);
    }

    /** What is foretold stays so, however often it is asked for. */
    private static void foretoldOfALife() {
        due.promise(18);
        Life life = young();
        while (life.left() >= 14) {
            life.is("ahead(4, 3, 1)", 4);
            life.is("drawn(1, 1, 1)", 1);
            life.is("grazed(60)", 7);
            life.is("fed(60, 1)", 5);
            life.is("shuts(2, 30, 1)", 4);
            life.is("lures(0, 2, 2, 1)", 6);
            life.is("starve(3, 1)", 5);
            life.is("who(4, 0, 0, 0, 4)", 50);
            life.is("grids(1, 4, 0, 0, 4)", 1016);
            life.is("which(0, 0, 4)", 16);
            life.is("snow(4, 2, 3, 3, 0)", 3);
            life.is("dies(3)", 14);
            life.is("comes(4, 0)", 3);
            life.is("meet(4, 0)", 3);
        }
        while (life.left() > 1) {
            life.is("count(5)", 14);
        }
        life.is("hayAhead(0, 1)", 5);
    }
}
