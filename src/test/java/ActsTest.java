/** Promises 9 to 17, 36, 37 and 42: what is done, undone, kept, and how it stands. */
public final class ActsTest {
    private static final Due due = new Due();

    public static void main(String[] args) {
        undo();
        allOfFiveQuarrelsIsUndone();
        onlyTheLatestCanBeUndone();
        years();
        whoGoesWhere();
        whoEats();
        lastYear();
        hay();
        grid();
        drive();
        grow();
        quarrel();
        road();
        parish();
        imageAndRestore();
        count();
        due.end();
    }

    private static void undo() {
        due.promise(9);
        GridQuarrels x = Due.told("c3,2;r0,1,1;r1,2,3;p0,2,1;k2,3,2;");
        due.is("none", x.undo(), Due.STATE);
        x.hay(0, 5);
        x.grid(1, 0);
        x.drive(0, 0);
        x.grow(1, 7);
        x.years(2);
        due.is("six acts", x.count(6), 6);
        // Year 1: 0 goes from 1 (2) to 0 (7), the calf from 2 stays: 1 has 2, too. Year 2: both eat where they are.
        due.is("0 behind two years", x.quarrel(0, 0), 0);
        due.is("a year is undone", x.undo(), 5);
        due.is("YEAR", x.count(4), 1);
        due.is("another is undone", x.undo(), 4);
        due.is("YEAR", x.count(4), 0);
        due.is("0 is where it was", x.quarrel(0, 0), 1);
        due.is("1 is as big as it was", x.quarrel(1, 1), 7);
        due.is("all hay", x.count(5), 11);
        due.is("grow is undone", x.undo(), 3);
        due.is("size", x.quarrel(1, 1), 3);
        due.is("drive is undone", x.undo(), 2);
        due.is("place", x.quarrel(0, 0), 0);
        due.is("grid is undone", x.undo(), 1);
        due.is("grid", x.road(1, 2), 3);
        due.is("hay is undone", x.undo(), 0);
        due.is("hay", x.parish(0, 0), 2);
        due.is("none any more", x.undo(), Due.STATE);
    }

    private static void allOfFiveQuarrelsIsUndone() {
        due.promise(9);
        GridQuarrels x = Due.told("c3,1;r0,1,0;r1,2,0;p0,1,0;t1,2,0;k2,3,0;b0,4,0;m1,5,0;");
        x.hay(1, 3);
        x.hay(2, 9);
        x.years(5);
        for (int n = 0; n < 5; n++) {
            x.undo();
        }
        int[] places = {0, 1, 2, 0, 1};
        int[] hay = {1, 4, 10};
        for (int q = 0; q < 5; q++) {
            due.is("place of " + q, x.quarrel(q, 0), places[q]);
            due.is("size of " + q, x.quarrel(q, 1), q + 1);
        }
        for (int p = 0; p < 3; p++) {
            due.is("hay in " + p, x.parish(p, 0), hay[p]);
        }
    }

    private static void onlyTheLatestCanBeUndone() {
        due.promise(9);
        GridQuarrels x = Due.told("c2,0;r0,1,1;m0,2,1;");
        for (int n = 0; n < 30; n++) {
            x.hay(0, 1);
        }
        due.is("24 are kept", x.count(6), 24);
        for (int n = 23; n >= 0; n--) {
            due.is("undo", x.undo(), n);
        }
        due.is("the oldest are forgotten", x.undo(), Due.STATE);
        due.is("hay by 6 acts", x.parish(0, 0), 6);
        x.hay(0, 9);
        x.years(24);
        due.is("years are acts", x.count(6), 24);
        for (int n = 0; n < 24; n++) {
            x.undo();
        }
        due.is("the hay stays", x.parish(0, 0), 15);
        due.is("YEAR 0", x.count(4), 0);
        x.image(5);
        x.hay(0, 0);
        x.grow(0, 0);
        x.quarrel(0, 0);
        due.is("what is refused is no act", x.count(6), 0);
    }

    private static void years() {
        due.promise(10);
        GridQuarrels x = new GridQuarrels();
        due.is("no county", x.years(1), Due.STATE);
        due.is("no county, ahead of BAD", x.years(0), Due.STATE);
        Due.tell(x, "c2,0;r0,1,9;m0,2,0;b1,2,1;p0,1,0;");
        due.is("years(0)", x.years(0), Due.BAD);
        due.is("years(25)", x.years(25), Due.BAD);
        due.is("years(-1)", x.years(-1), Due.BAD);
        due.is("the plain one starves", x.years(1), 2);
        due.is("the bull starves, the tame one does not", x.years(1), 1);
        due.is("years(24)", x.years(24), 1);
        due.is("a tame one is 1 at least", x.quarrel(0, 1), 1);
        due.is("a bull is dead", x.quarrel(1, 1), 0);
        due.is("the dead stay where they were", x.quarrel(1, 0), 1);
        due.is("YEAR", x.count(4), 26);
        due.is("acts", x.count(6), 24);
    }

    /** Where the first quarrel of a county is behind one year; hay is put in 1 and 2 ahead of it. */
    private static int wentTo(String text, int hayInOne, int hayInTwo) {
        GridQuarrels x = Due.told(text);
        if (hayInOne > 0) {
            x.hay(1, hayInOne);
        }
        if (hayInTwo > 0) {
            x.hay(2, hayInTwo);
        }
        due.is("foretold of " + text, x.quarrel(0, 4), x.ahead(0, 1, 0));
        x.years(1);
        return x.quarrel(0, 0);
    }

    private static void whoGoesWhere() {
        due.promise(10);
        due.is("most hay", wentTo("c3,0;r0,1,1;r0,2,1;p0,2,0;", 3, 4), 2);
        due.is("of several the first", wentTo("c3,0;r0,1,1;r0,2,1;p0,2,0;", 3, 3), 1);
        due.is("the first road, not parish", wentTo("c3,0;r0,2,1;r0,1,1;p0,2,0;", 3, 3), 2);
        due.is("roads from their other end", wentTo("c3,0;r1,0,1;r2,0,1;p0,2,0;", 3, 4), 2);
        due.is("not for as much", wentTo("c3,3;r0,1,1;r0,2,1;p0,2,0;", 0, 0), 0);
        due.is("for more", wentTo("c3,3;r0,1,1;r0,2,1;p0,2,0;", 0, 1), 2);
        due.is("only roads from where it is", wentTo("c3,0;r1,2,0;p0,9,0;", 9, 9), 0);
        due.is("a plain one, a grid as wide", wentTo("c3,0;r0,1,2;p0,2,0;", 3, 0), 0);
        due.is("a plain one, a grid less wide", wentTo("c3,0;r0,1,2;p0,3,0;", 3, 0), 1);
        due.is("past what it does not cross", wentTo("c3,0;r0,1,2;r0,2,0;p0,2,0;", 9, 1), 2);
        due.is("a thin one, 3 more", wentTo("c3,0;r0,1,5;t0,2,0;", 3, 0), 0);
        due.is("a thin one, 2 more", wentTo("c3,0;r0,1,4;t0,2,0;", 3, 0), 1);
        due.is("a calf, 1", wentTo("c3,0;r0,1,1;k0,9,0;", 3, 0), 0);
        due.is("a calf, 0", wentTo("c3,0;r0,1,0;k0,1,0;", 3, 0), 1);
        due.is("a calf goes from hay", wentTo("c3,1;r0,1,0;k0,1,0;", 3, 0), 1);
        due.is("a thin one goes from hay", wentTo("c3,1;r0,1,0;t0,1,0;", 3, 0), 1);
        due.is("a plain one goes from hay", wentTo("c3,1;r0,1,0;p0,1,0;", 3, 0), 1);
        due.is("a bull does not", wentTo("c3,1;r0,1,0;b0,5,0;", 9, 0), 0);
        due.is("a tame one does not", wentTo("c3,1;r0,1,0;m0,5,0;", 9, 0), 0);
        due.is("a bull without hay", wentTo("c3,0;r0,1,4;b0,5,0;", 9, 0), 1);
        due.is("a bull without hay, a grid as wide", wentTo("c3,0;r0,1,5;b0,5,0;", 9, 0), 0);
        due.is("a tame one without hay", wentTo("c3,0;r0,1,4;m0,5,0;", 9, 0), 1);
        due.is("a tame one without hay, a grid as wide", wentTo("c3,0;r0,1,5;m0,5,0;", 9, 0), 0);
    }

    private static void whoEats() {
        due.promise(10);
        GridQuarrels x = Due.told("c2,1;r0,1,9;p0,1,0;p0,1,0;");
        due.is("the first eats, the other dies", x.years(1), 1);
        due.is("it is bigger", x.quarrel(0, 1), 2);
        due.is("hay is less", x.parish(0, 0), 0);
        due.is("hay of the other parish is not", x.parish(1, 0), 1);
        x = Due.told("c2,9;r0,1,9;k0,3,0;k0,8,0;p0,9,0;b0,8,0;b1,3,0;");
        x.years(1);
        int[] sizes = {5, 9, 9, 9, 4};
        for (int q = 0; q < sizes.length; q++) {
            due.is("size of " + q, x.quarrel(q, 1), sizes[q]);
        }
        due.is("4 ate in 0", x.parish(0, 0), 5);
        due.is("1 ate in 1", x.parish(1, 0), 8);
        x = Due.told("c2,0;r0,1,0;p0,5,0;p0,5,0;");
        x.hay(1, 1);
        x.years(1);
        due.is("0 goes and eats all", x.quarrel(0, 0), 1);
        due.is("so 1 does not go", x.quarrel(1, 0), 0);
        due.is("and is less", x.quarrel(1, 1), 4);
        x = Due.told("c2,9;r0,1,0;p0,1,0;");
        x.drive(0, 0);
        x.hay(0, 1);
        x.years(1);
        due.is("it eats where it has gone", x.parish(0, 0), 9);
        due.is("not where it was", x.parish(1, 0), 9);
        aDeadOneDoesNothing();
    }

    private static void aDeadOneDoesNothing() {
        GridQuarrels x = Due.told("c2,0;r0,1,0;t0,1,0;k0,1,0;");
        x.years(1);
        x.hay(0, 5);
        x.hay(1, 9);
        due.is("none lives", x.years(3), 0);
        due.is("none goes", x.quarrel(0, 0), 0);
        due.is("none eats", x.count(5), 14);
    }

    private static void lastYear() {
        due.promise(10);
        GridQuarrels x = Due.told("c2,0;r0,1,9;m0,1,0;");
        for (int n = 0; n < 41; n++) {
            due.is("years(24)", x.years(24), 1);
        }
        due.is("16 more than can be", x.years(16), Due.FULL);
        due.is("YEAR stays", x.count(4), 984);
        due.is("15 more", x.years(15), 1);
        due.is("YEAR 999", x.count(4), 999);
        due.is("one more", x.years(1), Due.FULL);
        due.is("BAD comes ahead of it", x.years(25), Due.BAD);
        due.is("foretold all the same", x.ahead(0, 60, 1), 1);
        x.undo();
        due.is("two from 998", x.years(2), Due.FULL);
        due.is("one from 998", x.years(1), 1);
    }

    private static void hay() {
        due.promise(11);
        GridQuarrels x = Due.told("c3,9;r0,1,9;m0,1,0;");
        due.is("hay(2, 1)", x.hay(2, 1), 10);
        due.is("hay(2, 9)", x.hay(2, 9), 19);
        due.is("hay of another", x.parish(1, 0), 9);
        due.is("hay(3, 1)", x.hay(3, 1), Due.BAD);
        due.is("hay(-1, 1)", x.hay(-1, 1), Due.BAD);
        due.is("hay(0, 0)", x.hay(0, 0), Due.BAD);
        due.is("hay(0, 10)", x.hay(0, 10), Due.BAD);
        for (int n = 2; n <= 10; n++) {
            due.is("hay(2, 9)", x.hay(2, 9), Math.min(99, 10 + 9 * n));
        }
        due.is("99 at most", x.hay(2, 4), 99);
        due.is("an act all the same", x.count(6), 12);
        x.undo();
        x.undo();
        due.is("undone to what it was", x.parish(2, 0), 91);
    }

    private static void grid() {
        due.promise(12);
        GridQuarrels x = Due.told("c3,0;r0,1,9;r1,2,4;m0,1,0;");
        due.is("grid(1, 0)", x.grid(1, 0), 4);
        due.is("grid(1, 9)", x.grid(1, 9), 0);
        due.is("grid", x.road(1, 2), 9);
        due.is("the other", x.road(0, 2), 9);
        due.is("grid(2, 0)", x.grid(2, 0), Due.BAD);
        due.is("grid(-1, 0)", x.grid(-1, 0), Due.BAD);
        due.is("grid(0, -1)", x.grid(0, -1), Due.BAD);
        due.is("grid(0, 10)", x.grid(0, 10), Due.BAD);
        due.is("two acts", x.count(6), 2);
    }

    private static void drive() {
        due.promise(13);
        GridQuarrels x = Due.told("c3,0;r0,1,9;r2,1,9;p0,1,0;k1,2,1;");
        due.is("drive(0, 0)", x.drive(0, 0), 1);
        due.is("drive(0, 1)", x.drive(0, 1), 2);
        due.is("there it is", x.quarrel(0, 0), 2);
        due.is("not from there", x.drive(0, 0), Due.STATE);
        due.is("drive(1, 0) from the other end", x.drive(1, 0), 0);
        due.is("drive(2, 0)", x.drive(2, 0), Due.BAD);
        due.is("drive(-1, 0)", x.drive(-1, 0), Due.BAD);
        due.is("drive(0, 2)", x.drive(0, 2), Due.BAD);
        due.is("drive(0, -1)", x.drive(0, -1), Due.BAD);
        due.is("three acts", x.count(6), 3);
        x.years(1);
        due.is("it is dead", x.drive(0, 1), Due.STATE);
        due.is("BAD comes ahead of it", x.drive(0, 7), Due.BAD);
        due.is("the other is not", x.drive(1, 0), 1);
    }

    private static void grow() {
        due.promise(14);
        GridQuarrels x = Due.told("c3,0;r0,1,9;p0,1,0;k1,2,1;");
        due.is("grow(1, 9)", x.grow(1, 9), 2);
        due.is("grow(1, 1)", x.grow(1, 1), 9);
        due.is("size", x.quarrel(1, 1), 1);
        due.is("grow(2, 1)", x.grow(2, 1), Due.BAD);
        due.is("grow(-1, 1)", x.grow(-1, 1), Due.BAD);
        due.is("grow(0, 0)", x.grow(0, 0), Due.BAD);
        due.is("grow(0, 10)", x.grow(0, 10), Due.BAD);
        due.is("two acts", x.count(6), 2);
        x.years(1);
        due.is("it is dead", x.grow(0, 5), Due.STATE);
        due.is("BAD comes ahead of it", x.grow(0, 10), Due.BAD);
        x.undo();
        due.is("it is not any more", x.grow(0, 5), 1);
    }

    private static void quarrel() {
        due.promise(15);
        GridQuarrels x = Due.told("c4,0;r0,1,2;r2,0,3;r1,2,0;r3,0,0;p0,3,2;t0,1,1;k3,9,0;b1,1,3;");
        int[][] all = {{0, 3, 2, 1 | 8}, {0, 1, 1, 1 | 2 | 8}, {3, 9, 0, 8}, {1, 1, 3, 4}};
        for (int q = 0; q < 4; q++) {
            for (int what = 0; what < 4; what++) {
                due.is("quarrel(" + q + ", " + what + ")", x.quarrel(q, what), all[q][what]);
            }
        }
        x.hay(1, 1);
        x.hay(3, 2);
        due.is("where 0 would be", x.quarrel(0, 4), 3);
        due.is("where 1 would be, were it first", x.quarrel(1, 4), 3);
        due.is("where 2 would be", x.quarrel(2, 4), 3);
        due.is("where the bull would be", x.quarrel(3, 4), 1);
        due.is("quarrel(4, 0)", x.quarrel(4, 0), Due.BAD);
        due.is("quarrel(-1, 0)", x.quarrel(-1, 0), Due.BAD);
        due.is("quarrel(0, 5)", x.quarrel(0, 5), Due.BAD);
        due.is("quarrel(0, -1)", x.quarrel(0, -1), Due.BAD);
        x = Due.told("c2,0;r0,1,0;t0,1,1;");
        x.years(1);
        x.hay(1, 9);
        int[] dead = {0, 0, 1, 0, 0};
        for (int what = 0; what < 5; what++) {
            due.is("a dead one, " + what, x.quarrel(0, what), dead[what]);
        }
    }

    private static void road() {
        due.promise(16);
        GridQuarrels x = Due.told("c3,0;r0,1,9;r2,1,4;m0,1,0;");
        due.is("road(1, 0)", x.road(1, 0), 2);
        due.is("road(1, 1)", x.road(1, 1), 1);
        due.is("road(1, 2)", x.road(1, 2), 4);
        due.is("road(0, 0)", x.road(0, 0), 0);
        due.is("road(2, 0)", x.road(2, 0), Due.BAD);
        due.is("road(-1, 0)", x.road(-1, 0), Due.BAD);
        due.is("road(0, 3)", x.road(0, 3), Due.BAD);
        due.is("road(0, -1)", x.road(0, -1), Due.BAD);
    }

    private static void parish() {
        due.promise(17);
        GridQuarrels x = Due.told("c4,5;r0,1,9;r2,1,4;r1,2,0;m0,1,0;p1,1,0;b1,2,0;p1,9,0;");
        due.is("hay", x.parish(1, 0), 5);
        due.is("quarrels in 1", x.parish(1, 1), 2 | 4 | 8);
        due.is("quarrels in 0", x.parish(0, 1), 1);
        due.is("quarrels in 3", x.parish(3, 1), 0);
        due.is("roads at 1", x.parish(1, 2), 7);
        due.is("roads at 2", x.parish(2, 2), 6);
        due.is("roads at 0", x.parish(0, 2), 1);
        due.is("roads at 3", x.parish(3, 2), 0);
        due.is("parish(4, 0)", x.parish(4, 0), Due.BAD);
        due.is("parish(-1, 0)", x.parish(-1, 0), Due.BAD);
        due.is("parish(0, 3)", x.parish(0, 3), Due.BAD);
        due.is("parish(0, -1)", x.parish(0, -1), Due.BAD);
        x = Due.told("c2,0;r0,1,9;p0,1,0;b0,2,0;");
        x.years(1);
        due.is("the dead are not told", x.parish(0, 1), 2);
    }

    private static void imageAndRestore() {
        due.promise(36);
        GridQuarrels x = Due.told("c3,2;r0,1,1;r1,2,3;p0,2,1;k2,3,2;");
        due.is("image(2)", x.image(2), Due.BAD);
        due.is("image(-1)", x.image(-1), Due.BAD);
        x.hay(0, 3);
        x.years(1);
        due.is("image(0)", x.image(0), 1);
        due.is("acts can be undone yet", x.count(6), 2);
        x.grid(0, 9);
        x.grow(0, 9);
        x.drive(0, 0);
        x.years(3);
        due.is("image(1)", x.image(1), 1);
        x.undo();
        Due.tell(x, "c2,9;r0,1,0;b1,7,1;");

        due.promise(37);
        due.is("restore(2)", x.restore(2), Due.BAD);
        due.is("restore(-1)", x.restore(-1), Due.BAD);
        due.is("none was kept", Due.told("c2,9;r0,1,0;b1,7,1;").restore(0), Due.STATE);
        x.hay(0, 1);
        due.is("restore(0)", x.restore(0), 1);
        int[] counts = {0, 3, 2, 2, 1, 7, 0, 0};
        for (int what = 0; what < counts.length; what++) {
            due.is("count(" + what + ")", x.count(what), counts[what]);
        }
        due.is("grid", x.road(0, 2), 1);
        due.is("size", x.quarrel(0, 1), 3);
        due.is("size of the calf", x.quarrel(1, 1), 5);
        due.is("kind", x.kind(1), 3);
        due.is("brand", x.quarrel(0, 2), 1);
        due.is("no act can be undone", x.undo(), Due.STATE);
        x.years(2);
        due.is("an image stays as it was kept", x.restore(0), 1);
        due.is("YEAR", x.count(4), 1);
        due.is("restore(1)", x.restore(1), 1);
        due.is("YEAR of the other", x.count(4), 4);
        due.is("grid of the other", x.road(0, 2), 9);
    }

    private static void count() {
        due.promise(42);
        GridQuarrels x = Due.told("c3,2;r0,1,1;r1,2,3;p0,2,1;k2,3,2;b1,1,1;");
        x.row(3, 0, 0);
        x.row(5, 2, 9);
        x.hay(1, 4);
        x.years(1);
        x.feed('c');
        int[] counts = {2, 3, 2, 3, 1, 7, 2, 1};
        for (int what = 0; what < counts.length; what++) {
            due.is("count(" + what + ")", x.count(what), counts[what]);
        }
        due.is("count(8)", x.count(8), Due.BAD);
        due.is("count(-1)", x.count(-1), Due.BAD);
    }
}
