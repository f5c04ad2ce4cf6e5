/** Promises 6 to 8: the tape, how it is read, its faults. */
public final class TextTest {
    private static final Due due = new Due();
    private static final String LAW = "c3,2;", ROAD = "r0,1,4;", QUARREL = "p0,3,1;";

    public static void main(String[] args) {
        feed();
        county();
        places();
        numbers();
        room();
        allStays();
        fault();
        due.end();
    }

    private static void feed() {
        due.promise(6);
        GridQuarrels x = new GridQuarrels();
        due.is("feed(0)", x.feed(0), 1);
        due.is("feed(255)", x.feed(255), 2);
        due.is("feed(-1)", x.feed(-1), Due.BAD);
        due.is("feed(256)", x.feed(256), Due.BAD);
        due.is("count(7)", x.count(7), 2);
        for (int n = 3; n <= 120; n++) {
            due.is("feed number " + n, x.feed('a'), n);
        }
        due.is("feed number 121", x.feed('a'), Due.FULL);
        due.is("BAD comes ahead of FULL", x.feed(256), Due.BAD);
        due.is("count(7)", x.count(7), 120);
        x.county();
        due.is("the tape is empty then", x.count(7), 0);
    }

    private static void county() {
        due.promise(7);
        GridQuarrels x = new GridQuarrels();
        due.is("county", Due.tell(x, "c4,2;r0,1,3;r3,2,9;p0,9,3;t1,8,2;k2,7,1;b3,6,0;m0,5,1;"), 5);
        int[] counts = {0, 4, 2, 5, 0, 8, 0, 0};
        for (int what = 0; what < counts.length; what++) {
            due.is("count(" + what + ")", x.count(what), counts[what]);
        }
        for (int q = 0; q < 5; q++) {
            due.is("kind(" + q + ")", x.kind(q), q + 1);
            due.is("size of " + q, x.quarrel(q, 1), 9 - q);
        }
        due.is("brand of 0", x.quarrel(0, 2), 3);
        due.is("place of 3", x.quarrel(3, 0), 3);
        due.is("one of road 1", x.road(1, 0), 3);
        due.is("other of road 1", x.road(1, 1), 2);
        due.is("grid of road 1", x.road(1, 2), 9);
        due.is("parish 3 is told", x.parish(3, 0), 2);
        due.is("parish 4 is not", x.parish(4, 0), Due.BAD);
        due.is("the largest", Due.tell(x, "c07,09;" + ROAD.repeat(7) + QUARREL.repeat(5)), 5);
        due.is("the largest has 7 roads", x.count(2), 7);
        due.is("and all hay", x.count(5), 63);
        due.is("the least", Due.tell(x, "c2,0;r1,0,0;m1,1,1;"), 1);
        due.is("the least has 1 road", x.count(2), 1);
    }

    /** What cannot stand there, or is no token, is a fault 1 at its first byte. */
    private static void places() {
        due.promise(7);
        wrong("", 0, 1);
        wrong("r0,1,4;", 0, 1);
        wrong("3", 0, 1);
        wrong("C3,2;", 0, 1);
        wrong(" " + LAW, 0, 1);
        wrong("c", 1, 1);
        wrong("c,", 1, 1);
        wrong("cc", 1, 1);
        wrong("c3;", 2, 1);
        wrong("c3,", 3, 1);
        wrong("c3,2,", 4, 1);
        wrong("c3,2 ;", 4, 1);
        wrong(LAW, 5, 1);
        wrong(LAW + QUARREL, 5, 1);
        wrong(LAW + LAW, 5, 1);
        wrong(LAW + "r0,1;", 9, 1);
        wrong(LAW + "r0,1,4,", 11, 1);
        wrong(LAW + ROAD, 12, 1);
        wrong(LAW + ROAD + "x", 12, 1);
        wrong(LAW + ROAD + "c", 12, 1);
        wrong(LAW + ROAD + ";", 12, 1);
        wrong(LAW + ROAD + "7", 12, 1);
        wrong(LAW + ROAD + "p0,3,1", 18, 1);
        wrong(LAW + ROAD + QUARREL + ROAD, 19, 1);
        wrong(LAW + ROAD + QUARREL + LAW, 19, 1);
        wrong(LAW + ROAD + QUARREL + "\n", 19, 1);
        wrong(LAW + ROAD + QUARREL + (char) 255, 19, 1);
        wrong(LAW + ROAD + QUARREL + "p", 20, 1);
    }

    private static void numbers() {
        due.promise(7);
        wrong("c1,2;", 1, 2);
        wrong("c8,2;", 1, 2);
        wrong("c0,2;", 1, 2);
        wrong("c99,2;", 1, 2);
        wrong("c3,10;", 3, 2);
        wrong("c003,2;", 1, 1);
        wrong("c3,100;", 3, 1);
        wrong("c3,1000000000000;", 3, 1);
        wrong(LAW + "r3,1,4;", 6, 2);
        wrong(LAW + "r0,3,4;", 8, 2);
        wrong(LAW + "r1,1,4;", 8, 2);
        wrong(LAW + "r1,01,4;", 8, 2);
        wrong(LAW + "r0,1,10;", 10, 2);
        wrong(LAW + "r0,1,123;", 10, 1);
        wrong(LAW + "123", 5, 1);
        wrong(LAW + ROAD + "p3,3,1;", 13, 2);
        wrong(LAW + ROAD + "p0,0,1;", 15, 2);
        wrong(LAW + ROAD + "p0,10,1;", 15, 2);
        wrong(LAW + ROAD + "p0,3,3;", 17, 2);
        wrong(LAW + ROAD + "p0,3,03;", 17, 2);
        wrong("c8,x", 1, 2);
    }

    private static void room() {
        due.promise(7);
        wrong(LAW + ROAD.repeat(8) + QUARREL, 5 + 49, 3);
        wrong(LAW + ROAD.repeat(7) + "r", 5 + 49, 3);
        wrong(LAW + ROAD.repeat(7), 5 + 49, 1);
        wrong(LAW + ROAD.repeat(7) + QUARREL + ROAD, 5 + 56, 1);
        wrong(LAW + ROAD + QUARREL.repeat(6), 12 + 35, 3);
        wrong(LAW + ROAD + QUARREL.repeat(5) + "m", 12 + 35, 3);
        wrong(LAW + ROAD + QUARREL.repeat(5) + "r", 12 + 35, 1);
        wrong(LAW + ROAD + QUARREL.repeat(5) + "8", 12 + 35, 1);
    }

    private static void wrong(String text, int place, int number) {
        GridQuarrels x = new GridQuarrels();
        due.is("county of " + text, Due.tell(x, text), -1000100 - place);
        due.is("fault of " + text, x.fault(), number);
        due.is("no county by " + text, x.count(1) + x.count(2) + x.count(3), 0);
        due.is("the tape behind " + text, x.count(7), 0);
    }

    private static void allStays() {
        due.promise(7);
        GridQuarrels x = Due.told(LAW + ROAD + QUARREL);
        x.hay(0, 5);
        x.years(2);
        due.is("a fault", Due.tell(x, "c2,9;r0,1,0;"), -1000112);
        due.is("parishes stay", x.count(1), 3);
        due.is("YEAR stays", x.count(4), 2);
        due.is("HAY stays", x.count(5), 9);
        due.is("acts stay", x.count(6), 3);
        due.is("one is undone", x.undo(), 2);
        due.is("another county", Due.tell(x, "c2,9;r0,1,0;b1,1,1;t0,1,0;"), 2);
        due.is("its parishes", x.count(1), 2);
        due.is("its YEAR", x.count(4), 0);
        due.is("its HAY", x.count(5), 18);
        due.is("no act", x.count(6), 0);
        due.is("none can be undone", x.undo(), Due.STATE);
    }

    private static void fault() {
        due.promise(8);
        GridQuarrels x = new GridQuarrels();
        due.is("before one", x.fault(), 0);
        Due.tell(x, "c9");
        due.is("a number", x.fault(), 2);
        Due.tell(x, LAW + ROAD + QUARREL);
        due.is("the latest stays behind a good text", x.fault(), 2);
        Due.tell(x, LAW + ROAD.repeat(8));
        due.is("no room", x.fault(), 3);
        Due.tell(x, "");
        due.is("the end", x.fault(), 1);
    }
}
