/** Promises 18 to 35: what is foretold, and that nothing changes by it. */
public final class ForetoldTest {
    private static final Due due = new Due();
    /** 1 hay in 0, 2 in 1: quarrel 0 is in 1, 1, 0, 0 behind years 1 to 4, bigger by 3, then less each year. */
    private static final String THERE_AND_BACK = "c2,1;r0,1,0;p0,5,0;";

    public static void main(String[] args) {
        ahead();
        hayAhead();
        dies();
        comes();
        meet();
        grazed();
        shuts();
        lures();
        starve();
        way();
        reach();
        home();
        fed();
        who();
        whoRefuses();
        grids();
        which();
        snow();
        drawn();
        nothingChanges();
        due.end();
    }

    private static GridQuarrels thereAndBack() {
        GridQuarrels x = Due.told(THERE_AND_BACK);
        x.hay(1, 1);
        return x;
    }

    private static void putMuch(GridQuarrels x, int parish, int n) {
        for (int left = n; left > 0; left -= 9) {
            x.hay(parish, Math.min(9, left));
        }
    }

    private static void ahead() {
        due.promise(18);
        GridQuarrels x = thereAndBack();
        int[] places = {0, 1, 1, 0, 0, 0};
        int[] sizes = {5, 6, 7, 8, 7, 6};
        for (int n = 0; n < places.length; n++) {
            due.is("place behind " + n, x.ahead(0, n, 0), places[n]);
            due.is("size behind " + n, x.ahead(0, n, 1), sizes[n]);
        }
        due.is("dead at last", x.ahead(0, 60, 1), 0);
        due.is("where it was", x.ahead(0, 60, 0), 0);
        due.is("ahead(0, 61, 0)", x.ahead(0, 61, 0), Due.BAD);
        due.is("ahead(0, -1, 0)", x.ahead(0, -1, 0), Due.BAD);
        due.is("ahead(0, 0, 2)", x.ahead(0, 0, 2), Due.BAD);
        due.is("ahead(0, 0, -1)", x.ahead(0, 0, -1), Due.BAD);
        due.is("ahead(1, 0, 0)", x.ahead(1, 0, 0), Due.BAD);
        due.is("ahead(-1, 0, 0)", x.ahead(-1, 0, 0), Due.BAD);
    }

    private static void hayAhead() {
        due.promise(19);
        GridQuarrels x = thereAndBack();
        int[] first = {1, 1, 1, 0, 0};
        int[] second = {2, 1, 0, 0, 0};
        for (int n = 0; n < first.length; n++) {
            due.is("hay in 0 behind " + n, x.hayAhead(0, n), first[n]);
            due.is("hay in 1 behind " + n, x.hayAhead(1, n), second[n]);
        }
        due.is("hayAhead(1, 60)", x.hayAhead(1, 60), 0);
        due.is("hayAhead(1, 61)", x.hayAhead(1, 61), Due.BAD);
        due.is("hayAhead(1, -1)", x.hayAhead(1, -1), Due.BAD);
        due.is("hayAhead(2, 0)", x.hayAhead(2, 0), Due.BAD);
        due.is("hayAhead(-1, 0)", x.hayAhead(-1, 0), Due.BAD);
    }

    private static void dies() {
        due.promise(20);
        GridQuarrels x = Due.told("c2,0;r0,1,9;p0,3,0;m1,2,0;b1,9,0;");
        due.is("dies(0)", x.dies(0), 3);
        due.is("dies(1)", x.dies(1), Due.NONE);
        due.is("dies(2)", x.dies(2), 9);
        due.is("dies(3)", x.dies(3), Due.BAD);
        due.is("dies(-1)", x.dies(-1), Due.BAD);
        x.years(3);
        due.is("it is", x.dies(0), 0);
        due.is("dies(2) later", x.dies(2), 6);
        x = Due.told("c2,9;r0,1,9;b0,9,0;");
        putMuch(x, 0, 42);
        due.is("51 years with hay, 9 without", x.dies(0), 60);
        x.hay(0, 1);
        due.is("later than 60", x.dies(0), Due.NONE);
    }

    private static void comes() {
        due.promise(21);
        GridQuarrels x = thereAndBack();
        due.is("it is there", x.comes(0, 0), 0);
        due.is("behind 1", x.comes(0, 1), 1);
        due.is("comes(1, 0)", x.comes(1, 0), Due.BAD);
        due.is("comes(-1, 0)", x.comes(-1, 0), Due.BAD);
        due.is("comes(0, 2)", x.comes(0, 2), Due.BAD);
        due.is("comes(0, -1)", x.comes(0, -1), Due.BAD);
        x = Due.told("c3,0;r0,1,0;p0,1,0;");
        due.is("never", x.comes(0, 1), Due.NONE);
        x.years(1);
        due.is("a dead one is not there", x.comes(0, 0), Due.NONE);
        x = Due.told("c2,9;r0,1,0;b0,5,0;");
        putMuch(x, 0, 50);
        due.is("it eats 59, then goes", x.comes(0, 1), 60);
        x.hay(0, 1);
        due.is("later than 60", x.comes(0, 1), Due.NONE);
    }

    private static void meet() {
        due.promise(22);
        GridQuarrels x = Due.told("c3,0;r0,1,0;r1,2,0;p0,5,0;p2,5,0;p2,1,0;");
        x.hay(1, 9);
        due.is("both go to 1", x.meet(0, 1), 1);
        due.is("they do", x.meet(1, 2), 0);
        due.is("either way", x.meet(2, 1), 0);
        due.is("alike", x.meet(1, 1), Due.BAD);
        due.is("meet(0, 3)", x.meet(0, 3), Due.BAD);
        due.is("meet(3, 0)", x.meet(3, 0), Due.BAD);
        due.is("meet(-1, 0)", x.meet(-1, 0), Due.BAD);
        due.is("meet(0, -1)", x.meet(0, -1), Due.BAD);
        x = Due.told("c2,0;r0,1,9;p0,1,0;p0,2,0;p1,9,0;");
        due.is("apart", x.meet(0, 2), Due.NONE);
        x.years(1);
        due.is("one is dead", x.meet(0, 1), Due.NONE);
        due.is("one is dead, either way", x.meet(1, 0), Due.NONE);
        x = Due.told("c2,9;r0,1,0;b0,5,0;m1,1,1;");
        putMuch(x, 0, 50);
        putMuch(x, 1, 90);
        due.is("behind 60", x.meet(0, 1), 60);
        x.hay(0, 1);
        due.is("later than 60", x.meet(0, 1), Due.NONE);
    }

    private static void grazed() {
        due.promise(23);
        GridQuarrels x = thereAndBack();
        due.is("grazed(1)", x.grazed(1), 2);
        due.is("grazed(2)", x.grazed(2), 2);
        due.is("grazed(3)", x.grazed(3), 3);
        due.is("grazed(60)", x.grazed(60), 3);
        due.is("grazed(0)", x.grazed(0), Due.BAD);
        due.is("grazed(61)", x.grazed(61), Due.BAD);
        x.years(3);
        due.is("only from now on", x.grazed(60), 0);
    }

    private static void shuts() {
        due.promise(24);
        GridQuarrels x = Due.told("c3,0;r0,1,0;r1,2,0;r0,2,0;p0,5,0;");
        x.hay(1, 3);
        x.hay(2, 9);
        due.is("one, for a year", x.shuts(2, 1, 0), 1);
        due.is("which", x.shuts(2, 1, 1), 4);
        due.is("two, for two", x.shuts(2, 2, 0), 2);
        due.is("of several the least", x.shuts(2, 2, 1), 5);
        due.is("it is there now", x.shuts(0, 30, 0), 0);
        due.is("none is to be shut", x.shuts(0, 30, 1), 0);
        due.is("shuts(3, 1, 0)", x.shuts(3, 1, 0), Due.BAD);
        due.is("shuts(-1, 1, 0)", x.shuts(-1, 1, 0), Due.BAD);
        due.is("shuts(0, 0, 0)", x.shuts(0, 0, 0), Due.BAD);
        due.is("shuts(0, 31, 0)", x.shuts(0, 31, 0), Due.BAD);
        due.is("shuts(0, 1, 2)", x.shuts(0, 1, 2), Due.BAD);
        due.is("shuts(0, 1, -1)", x.shuts(0, 1, -1), Due.BAD);
        x = Due.told("c2,0;r0,1,9;t0,9,0;");
        x.hay(1, 1);
        due.is("12 holds a thin one of 9", x.shuts(1, 30, 1), 1);
        x = Due.told("c3,0;r0,1,0;r0,2,0;p1,5,0;");
        x.hay(1, 2);
        x.hay(0, 3);
        due.is("it goes", x.ahead(0, 1, 0), 0);
        due.is("and comes back", x.ahead(0, 3, 0), 1);
        due.is("to where it is now", x.shuts(1, 30, 0), 0);
        beyondTheLastYear();
    }

    /** It eats 3 in 0, and goes to 1 in year 4. */
    private static void beyondTheLastYear() {
        GridQuarrels x = Due.told("c2,3;r0,1,0;b0,5,0;");
        due.is("not behind three", x.shuts(1, 3, 0), 0);
        due.is("behind four", x.shuts(1, 4, 0), 1);
        due.is("behind one of ten", x.shuts(1, 10, 0), 1);
    }

    private static void lures() {
        due.promise(25);
        GridQuarrels x = Due.told("c4,0;r0,1,0;r0,2,0;r2,3,9;p0,2,0;k0,1,0;");
        due.is("one", x.lures(0, 1, 1, 0), 1);
        due.is("which", x.lures(0, 1, 1, 1), 2);
        due.is("beyond a grid", x.lures(0, 3, 30, 0), Due.NONE);
        due.is("beyond a grid, which", x.lures(0, 3, 30, 1), Due.NONE);
        x.hay(2, 9);
        due.is("it goes by itself", x.lures(0, 2, 1, 0), 0);
        due.is("none", x.lures(0, 2, 1, 1), 0);
        due.is("lures(2, 0, 1, 0)", x.lures(2, 0, 1, 0), Due.BAD);
        due.is("lures(-1, 0, 1, 0)", x.lures(-1, 0, 1, 0), Due.BAD);
        due.is("lures(0, 4, 1, 0)", x.lures(0, 4, 1, 0), Due.BAD);
        due.is("lures(0, -1, 1, 0)", x.lures(0, -1, 1, 0), Due.BAD);
        due.is("lures(0, 0, 0, 0)", x.lures(0, 0, 0, 0), Due.BAD);
        due.is("lures(0, 0, 31, 0)", x.lures(0, 0, 31, 0), Due.BAD);
        due.is("lures(0, 0, 1, 2)", x.lures(0, 0, 1, 2), Due.BAD);
        due.is("lures(0, 0, 1, -1)", x.lures(0, 0, 1, -1), Due.BAD);
        x = thereAndBack();
        due.is("behind two", x.lures(0, 1, 2, 0), 0);
        due.is("behind three", x.lures(0, 1, 3, 0), 1);
        due.is("behind three, which", x.lures(0, 1, 3, 1), 2);
        luresMoreThanOne();
    }

    private static void luresMoreThanOne() {
        // In 1 it eats for 9 years and is dead behind 18; with hay in 0, too, it comes to 1 in year 10.
        GridQuarrels x = Due.told("c3,0;r0,1,0;r0,2,0;b0,1,0;");
        due.is("for 30 years not by all", x.lures(0, 1, 30, 0), Due.NONE);
        due.is("for 10 years, how many", x.lures(0, 1, 10, 0), 1);
        due.is("for 10 years, which", x.lures(0, 1, 10, 1), 2);
        due.is("for 18 years it starves in 1", x.lures(0, 1, 18, 0), 2);
        due.is("unless it has eaten in 0", x.lures(0, 1, 18, 1), 3);
        x = Due.told("c4,0;r0,1,0;r0,2,0;r1,3,0;r2,3,0;p0,5,0;");
        putMuch(x, 3, 20);
        due.is("by way of 1, or of 2", x.lures(0, 3, 2, 0), 1);
        due.is("of several the least", x.lures(0, 3, 2, 1), 2);
        x = Due.told("c7,0;r1,3,1;r3,6,2;r5,2,0;r0,4,2;r1,2,0;r6,0,2;r6,1,9;p0,9,0;");
        x.hay(4, 4);
        due.is("from one to the next by hay in all", x.lures(0, 5, 12, 1), 127);
        x = Due.told("c3,0;r0,2,0;r0,1,0;p0,1,0;");
        putMuch(x, 1, 95);
        putMuch(x, 2, 99);
        due.is("99 at most: the first road stays the best", x.lures(0, 1, 1, 0), Due.NONE);
        x = Due.told("c2,0;r0,1,0;p0,1,0;");
        x.years(1);
        due.is("it is dead", x.lures(0, 0, 1, 0), Due.NONE);
    }

    private static void starve() {
        due.promise(26);
        GridQuarrels x = Due.told("c3,2;r0,1,9;p1,3,0;m0,3,0;");
        due.is("where it is", x.starve(0, 0), 1);
        due.is("behind how many", x.starve(0, 1), 3);
        due.is("not a tame one", x.starve(1, 0), Due.NONE);
        due.is("not a tame one, either", x.starve(1, 1), Due.NONE);
        due.is("starve(2, 0)", x.starve(2, 0), Due.BAD);
        due.is("starve(-1, 0)", x.starve(-1, 0), Due.BAD);
        due.is("starve(0, 2)", x.starve(0, 2), Due.BAD);
        due.is("starve(0, -1)", x.starve(0, -1), Due.BAD);
        x = Due.told("c2,2;r0,1,0;p0,3,0;");
        due.is("of several the first", x.starve(0, 0), 0);
        due.is("both behind 7", x.starve(0, 1), 7);
        x.years(11);
        due.is("it is dead", x.starve(0, 0), Due.NONE);
        due.is("it is dead, too", x.starve(0, 1), Due.NONE);
        x = Due.told("c3,0;r0,1,9;b0,9,0;");
        due.is("though there is none to take", x.starve(0, 0), 0);
        due.is("behind 9", x.starve(0, 1), 9);
        starveAtSixty();
    }

    private static void starveAtSixty() {
        // It eats in one of two parishes only: 51 years, and dies behind 60.
        GridQuarrels x = Due.told("c3,0;r1,2,0;k0,9,0;");
        putMuch(x, 0, 51);
        due.is("its own hay is worst", x.starve(0, 1), 9);
        x = Due.told("c2,0;r0,1,0;b0,9,0;");
        putMuch(x, 0, 51);
        putMuch(x, 1, 51);
        due.is("without either", x.starve(0, 0), 0);
        due.is("behind 60", x.starve(0, 1), 60);
        x.hay(0, 1);
        due.is("without 0 alone", x.starve(0, 1), 60);
        x.hay(1, 1);
        due.is("by none until 60", x.starve(0, 0), Due.NONE);
    }

    private static void way() {
        due.promise(27);
        GridQuarrels x = Due.told("c6,0;r0,1,2;r1,2,2;r2,3,2;r3,0,3;r3,4,5;p0,3,0;t0,3,0;k0,9,0;p0,1,0;");
        due.is("it is there", x.way(0, 0), 0);
        due.is("one", x.way(0, 1), 1);
        due.is("two", x.way(0, 2), 2);
        due.is("three, as 3 is too wide", x.way(0, 3), 3);
        due.is("5 is too wide", x.way(0, 4), Due.NONE);
        due.is("a thin one", x.way(1, 3), 1);
        due.is("a thin one, two", x.way(1, 4), 2);
        due.is("no road goes there", x.way(1, 5), Due.NONE);
        due.is("a calf", x.way(2, 1), Due.NONE);
        due.is("way(4, 0)", x.way(4, 0), Due.BAD);
        due.is("way(-1, 0)", x.way(-1, 0), Due.BAD);
        due.is("way(0, 6)", x.way(0, 6), Due.BAD);
        due.is("way(0, -1)", x.way(0, -1), Due.BAD);
        x.years(1);
        due.is("it is dead", x.way(3, 0), Due.STATE);
        due.is("BAD comes ahead of it", x.way(3, 6), Due.BAD);
        due.is("the size as it is", x.way(0, 1), Due.NONE);
        x = Due.told("c7,9;r0,1,0;r1,2,0;r2,3,0;r3,4,0;r4,5,0;r5,6,0;b0,1,0;");
        due.is("six, though it would not go", x.way(0, 6), 6);
    }

    private static void reach() {
        due.promise(28);
        GridQuarrels x = Due.told("c6,0;r0,1,2;r1,2,2;r2,3,2;r3,0,3;r3,4,5;p0,3,0;t0,3,0;k0,9,0;p0,1,0;");
        due.is("reach(0)", x.reach(0), 15);
        due.is("reach(1)", x.reach(1), 31);
        due.is("reach(2)", x.reach(2), 1);
        due.is("reach(4)", x.reach(4), Due.BAD);
        due.is("reach(-1)", x.reach(-1), Due.BAD);
        x.years(1);
        due.is("it is dead", x.reach(3), Due.STATE);
        x = Due.told("c7,9;r6,5,0;r5,4,0;r4,3,0;r3,2,0;r2,1,0;r1,0,0;b0,1,0;");
        due.is("all", x.reach(0), 127);
    }

    private static void home() {
        due.promise(29);
        GridQuarrels x = Due.told("c3,0;r0,1,2;p0,1,0;p1,2,1;b2,9,2;m0,1,1;");
        due.is("home()", x.home(), 7);
        x.years(1);
        due.is("not the dead", x.home(), 6);
        x.drive(1, 0);
        x.drive(3, 0);
        due.is("driven", x.home(), 12);
    }

    private static void fed() {
        due.promise(30);
        GridQuarrels x = Due.told("c3,0;r0,1,9;p0,9,0;p1,9,0;p2,9,0;");
        due.is("none eats: the first", x.fed(9, 0), 0);
        due.is("none eats", x.fed(9, 1), 0);
        x.hay(0, 2);
        x.hay(1, 3);
        x.hay(2, 3);
        due.is("one, in one year", x.fed(1, 1), 1);
        due.is("of several the first, of all", x.fed(2, 0), 0);
        due.is("two", x.fed(2, 1), 2);
        due.is("of several the first", x.fed(60, 0), 1);
        due.is("three", x.fed(60, 1), 3);
        due.is("fed(0, 0)", x.fed(0, 0), Due.BAD);
        due.is("fed(61, 0)", x.fed(61, 0), Due.BAD);
        due.is("fed(1, 2)", x.fed(1, 2), Due.BAD);
        due.is("fed(1, -1)", x.fed(1, -1), Due.BAD);
        x.hay(2, 1);
        due.is("the last", x.fed(60, 0), 2);
    }

    private static GridQuarrels oneRoadOfThree() {
        GridQuarrels x = Due.told("c2,0;r0,1,3;p0,4,0;b0,9,0;");
        x.drive(1, 0);
        x.hay(1, 9);
        Due.fill(x, 0, 5, 1, 0, 1, 1, 1);
        return x;
    }

    private static void who() {
        due.promise(31);
        GridQuarrels x = oneRoadOfThree();
        due.is("kinds that go", x.who(0, 0, 0, 1, 1), 2 | 4 | 16 | 32);
        due.is("kinds that stay", x.who(0, 0, 0, 2, 1), 8);
        due.is("kinds that come back", x.who(0, 0, 0, 1, 2), 0);
        due.is("sizes that go", x.who(0, 1, 0, 1, 1), 1008);
        due.is("sizes that stay", x.who(0, 1, 0, 2, 1), 14);
        due.is("from where it would be in 1", x.who(0, 2, 0, 1, 1), 3);
        due.is("from where it would be in 0", x.who(0, 2, 0, 2, 1), 0);
        due.is("three years in 1", x.who(0, 2, 0, 3, 3), 3);
        due.is("nowhere", x.who(0, 2, 0, 0, 1), 0);
        x.grid(0, 9);
        due.is("from where it would stay in 1", x.who(0, 2, 0, 1, 1), 2);
        due.is("from where it would stay in 0", x.who(0, 2, 0, 2, 1), 1);
        x = Due.told("c2,0;r0,1,0;p0,2,0;");
        Due.fill(x, 0, 0, 0, 0, 0, 0, 0, 0, 0, 0, 0, 0, 0);
        due.is("as it was, if dead", x.who(0, 1, 0, 0, 12), 1022);
        due.is("as it was, if dead, by kinds", x.who(0, 0, 0, 0, 12), 62);
        sizeTellsWhenItComes();
    }

    /** In 0 it eats 3 years, and has grown past the grid of 6 by then, if it is 4 or more now. */
    private static void sizeTellsWhenItComes() {
        GridQuarrels x = Due.told("c2,3;r0,1,6;b0,4,0;");
        Due.fill(x, 0, 0, 0, 0, 1);
        due.is("sizes by the fourth year", x.who(0, 1, 0, 0, 4), 1008);
        due.is("kinds by the fourth year", x.who(0, 0, 0, 0, 4), 2 | 16 | 32);
    }

    private static void whoRefuses() {
        due.promise(31);
        GridQuarrels x = oneRoadOfThree();
        due.is("who(2, 0, 0, 0, 1)", x.who(2, 0, 0, 0, 1), Due.BAD);
        due.is("who(-1, 0, 0, 0, 1)", x.who(-1, 0, 0, 0, 1), Due.BAD);
        due.is("who(0, 3, 0, 0, 1)", x.who(0, 3, 0, 0, 1), Due.BAD);
        due.is("who(0, -1, 0, 0, 1)", x.who(0, -1, 0, 0, 1), Due.BAD);
        due.is("who(0, 0, 8, 0, 1)", x.who(0, 0, 8, 0, 1), Due.BAD);
        due.is("who(0, 0, -1, 0, 1)", x.who(0, 0, -1, 0, 1), Due.BAD);
        due.is("who(0, 0, 0, 0, 0)", x.who(0, 0, 0, 0, 0), Due.BAD);
        due.is("who(0, 0, 0, 0, 13)", x.who(0, 0, 0, 0, 13), Due.BAD);
        due.is("who(0, 0, 5, 0, 12)", x.who(0, 0, 5, 0, 12), Due.NULL);
        due.is("who(0, 0, 0, 0, 12)", x.who(0, 0, 0, 0, 12), Due.PLACE);
        due.is("who(0, 0, 0, 6, 1)", x.who(0, 0, 0, 6, 1), Due.PLACE);
        due.is("who(0, 0, 0, -1, 1)", x.who(0, 0, 0, -1, 1), Due.PLACE);
        due.is("who with a great i", x.who(0, 0, 0, Integer.MAX_VALUE, 12), Due.PLACE);
        x = Due.told("c2,0;r0,1,0;p0,1,0;");
        x.years(1);
        due.is("it is dead", x.who(0, 0, 5, 0, 1), Due.STATE);
        due.is("BAD comes ahead of it", x.who(0, 0, 5, 0, 13), Due.BAD);
    }

    private static void grids() {
        due.promise(32);
        GridQuarrels x = oneRoadOfThree();
        due.is("grids that let it go", x.grids(0, 0, 0, 1, 1), 15);
        due.is("grids that do not", x.grids(0, 0, 0, 2, 1), 1008);
        due.is("none", x.grids(0, 0, 0, 0, 1), 0);
        due.is("of one that stays, all", x.grids(0, 1, 0, 3, 3), 1023);
        due.is("grids(1, 0, 0, 0, 1)", x.grids(1, 0, 0, 0, 1), Due.BAD);
        due.is("grids(-1, 0, 0, 0, 1)", x.grids(-1, 0, 0, 0, 1), Due.BAD);
        due.is("grids(0, 2, 0, 0, 1)", x.grids(0, 2, 0, 0, 1), Due.BAD);
        due.is("grids(0, -1, 0, 0, 1)", x.grids(0, -1, 0, 0, 1), Due.BAD);
        due.is("grids(0, 0, 8, 0, 1)", x.grids(0, 0, 8, 0, 1), Due.BAD);
        due.is("grids(0, 0, 0, 0, 0)", x.grids(0, 0, 0, 0, 0), Due.BAD);
        due.is("grids(0, 0, 0, 0, 13)", x.grids(0, 0, 0, 0, 13), Due.BAD);
        due.is("grids(0, 0, 5, 9, 1)", x.grids(0, 0, 5, 9, 1), Due.NULL);
        due.is("grids(0, 0, 0, 5, 2)", x.grids(0, 0, 0, 5, 2), Due.PLACE);
        due.is("grids(0, 0, 0, -1, 2)", x.grids(0, 0, 0, -1, 2), Due.PLACE);
        x = Due.told("c2,0;r0,1,0;p0,1,0;");
        x.years(1);
        x.row(0, 0, 3);
        due.is("of a dead one, where it was", x.grids(0, 0, 0, 0, 3), 1023);
        x.set(0, 1, 1);
        due.is("of a dead one, where it was not", x.grids(0, 0, 0, 0, 3), 0);
    }

    private static void which() {
        due.promise(33);
        GridQuarrels x = oneRoadOfThree();
        due.is("both", x.which(0, 3, 3), 3);
        due.is("none", x.which(0, 2, 1), 0);
        due.is("none by a place that is not", x.which(0, 0, 1), 0);
        due.is("which(8, 0, 1)", x.which(8, 0, 1), Due.BAD);
        due.is("which(-1, 0, 1)", x.which(-1, 0, 1), Due.BAD);
        due.is("which(0, 0, 0)", x.which(0, 0, 0), Due.BAD);
        due.is("which(0, 0, 13)", x.which(0, 0, 13), Due.BAD);
        due.is("which(5, 9, 1)", x.which(5, 9, 1), Due.NULL);
        due.is("which(0, 6, 1)", x.which(0, 6, 1), Due.PLACE);
        due.is("which(0, -1, 1)", x.which(0, -1, 1), Due.PLACE);
        x.grid(0, 9);
        due.is("one goes, one stays", x.which(0, 3, 1), 2);
        due.is("the other", x.which(0, 2, 1), 1);
        x = Due.told("c2,0;r0,1,0;p0,1,0;m0,1,0;p1,1,0;");
        x.years(1);
        x.row(0, 1, 12);
        due.is("the dead are where they were", x.which(0, 0, 12), 3);
    }

    private static void fraction(GridQuarrels x, int parish, int n, int p, long above, long below) {
        String call = "snow(0, " + parish + ", " + n + ", " + p + ", ";
        due.is(call + "0)", x.snow(0, parish, n, p, 0), above);
        due.is(call + "1)", x.snow(0, parish, n, p, 1), below);
    }

    private static void snow() {
        due.promise(34);
        GridQuarrels x = Due.told("c2,0;r0,1,9;p0,3,0;");
        x.hay(1, 9);
        fraction(x, 1, 1, 3, 3, 10);
        fraction(x, 0, 1, 3, 7, 10);
        fraction(x, 1, 1, 5, 1, 2);
        fraction(x, 1, 1, 0, 0, 1);
        fraction(x, 1, 1, 10, 1, 1);
        fraction(x, 1, 0, 10, 0, 1);
        fraction(x, 0, 0, 4, 1, 1);
        fraction(x, 0, 2, 3, 7, 10);
        fraction(x, 0, 3, 3, 0, 1);
        due.is("snow(1, 0, 0, 0, 0)", x.snow(1, 0, 0, 0, 0), Due.BAD);
        due.is("snow(-1, 0, 0, 0, 0)", x.snow(-1, 0, 0, 0, 0), Due.BAD);
        due.is("snow(0, 2, 0, 0, 0)", x.snow(0, 2, 0, 0, 0), Due.BAD);
        due.is("snow(0, -1, 0, 0, 0)", x.snow(0, -1, 0, 0, 0), Due.BAD);
        due.is("snow(0, 0, 31, 0, 0)", x.snow(0, 0, 31, 0, 0), Due.BAD);
        due.is("snow(0, 0, -1, 0, 0)", x.snow(0, 0, -1, 0, 0), Due.BAD);
        due.is("snow(0, 0, 0, 11, 0)", x.snow(0, 0, 0, 11, 0), Due.BAD);
        due.is("snow(0, 0, 0, -1, 0)", x.snow(0, 0, 0, -1, 0), Due.BAD);
        due.is("snow(0, 0, 0, 0, 2)", x.snow(0, 0, 0, 0, 2), Due.BAD);
        due.is("snow(0, 0, 0, 0, -1)", x.snow(0, 0, 0, 0, -1), Due.BAD);
        snowOnMoreRoads();
    }

    private static void snowOnMoreRoads() {
        GridQuarrels x = Due.told("c3,0;r0,1,9;r1,0,9;r1,2,0;p0,3,0;");
        x.hay(1, 9);
        fraction(x, 1, 1, 3, 51, 100);
        fraction(x, 1, 1, 4, 16, 25);
        x = Due.told("c2,0;r0,1,9;r0,1,8;r0,1,9;r0,1,8;r0,1,9;r0,1,8;r0,1,9;p0,3,0;");
        x.hay(1, 9);
        fraction(x, 1, 1, 1, 5217031, 10000000);
        fraction(x, 0, 1, 1, 4782969, 10000000);
        fraction(x, 1, 1, 5, 127, 128);
        x = Due.told("c2,0;r0,1,0;p0,3,0;");
        x.hay(1, 9);
        fraction(x, 1, 17, 0, 1, 1);
        fraction(x, 1, 17, 6, 1, 1);
        fraction(x, 1, 18, 0, 0, 1);
        x = Due.told("c2,0;r0,1,1;p0,1,0;");
        x.hay(1, 9);
        fraction(x, 1, 1, 3, 3, 10);
        x = Due.told("c2,0;r0,1,4;k0,1,0;");
        x.hay(1, 9);
        fraction(x, 1, 1, 8, 4, 5);
    }

    /** By the seed 1 X becomes 16807, 282475249, 1622650073, 984943658, 1144108930, 470211272, 101027544. */
    private static void drawn() {
        due.promise(35);
        GridQuarrels x = Due.told("c2,0;r0,1,9;p0,9,0;p1,1,0;");
        due.is("none goes in 6 years", x.drawn(6, 1, 1), 0);
        due.is("the seventh fills the grid", x.drawn(7, 1, 1), 1);
        due.is("both live", x.drawn(7, 1, 0), 2);
        due.is("no year", x.drawn(0, 1, 0), 2);
        due.is("no year, no road", x.drawn(0, 999999, 1), 0);
        due.is("drawn(-1, 1, 0)", x.drawn(-1, 1, 0), Due.BAD);
        due.is("drawn(61, 1, 0)", x.drawn(61, 1, 0), Due.BAD);
        due.is("drawn(1, 0, 0)", x.drawn(1, 0, 0), Due.BAD);
        due.is("drawn(1, 1000000, 0)", x.drawn(1, 1000000, 0), Due.BAD);
        due.is("drawn(1, 1, 2)", x.drawn(1, 1, 2), Due.BAD);
        due.is("drawn(1, 1, -1)", x.drawn(1, 1, -1), Due.BAD);
        x = Due.told("c2,0;r0,1,9;p0,1,0;p1,1,0;");
        due.is("hay comes to 1 ahead of the first year", x.drawn(1, 1, 0), 1);
        x = Due.told("c2,0;r0,1,9;p1,1,0;p1,1,0;p1,1,0;");
        due.is("2 hay, for two", x.drawn(1, 1, 0), 2);
        x = Due.told("c2,0;r0,1,9;k0,9,0;");
        due.is("a calf waits", x.drawn(6, 1, 1), 0);
        due.is("until the grid is 0", x.drawn(7, 1, 1), 1);
    }

    private static void nothingChanges() {
        GridQuarrels x = oneRoadOfThree();
        x.image(0);
        String before = state(x);
        x.ahead(0, 60, 0);
        x.hayAhead(1, 60);
        x.dies(0);
        x.comes(0, 1);
        x.meet(0, 1);
        x.grazed(60);
        x.shuts(1, 30, 1);
        x.lures(0, 1, 30, 1);
        x.starve(0, 0);
        x.fed(60, 0);
        x.who(0, 0, 0, 1, 1);
        x.who(0, 1, 0, 1, 1);
        x.who(0, 2, 0, 1, 1);
        x.grids(0, 0, 0, 1, 1);
        x.which(0, 1, 1);
        x.snow(0, 1, 30, 5, 0);
        x.drawn(60, 7, 0);
        due.that("nothing changes: " + before + " became " + state(x), before.equals(state(x)));
    }

    private static String state(GridQuarrels x) {
        StringBuilder all = new StringBuilder();
        for (int what = 0; what < 8; what++) {
            all.append(x.count(what)).append(' ');
        }
        for (int q = 0; q < 2; q++) {
            all.append(x.quarrel(q, 0)).append(' ').append(x.quarrel(q, 1)).append(' ').append(x.kind(q)).append(' ');
        }
        return all.append(x.road(0, 2)).append(' ').append(x.parish(0, 0)).append(' ').append(x.parish(1, 0)).toString();
    }
}
