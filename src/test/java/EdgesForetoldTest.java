/** The boundary cases of promises 18 to 30: one test for each sentence. */
public final class EdgesForetoldTest {
    private static final Due due = new Due();
    private static final Twins twins = new Twins(due);
    private static final Twins.Past LEAST = x -> Due.tell(x, "c2,0;r0,1,0;m0,1,0;");

    public static void main(String[] args) {
        aheadNumbers();
        aheadOfNoneAndOfSixty();
        aheadOfTheDead();
        hayAheadNumbers();
        hayAheadOfNoneAndOfSixty();

        diesNumbers();
        diesBehindSixtyAtMost();
        comesNumbers();
        comesBehindSixtyAtMost();
        comesOfTheDead();
        meetNumbers();
        meetAlike();
        meetBehindSixtyAtMost();
        meetOfTheDead();

        grazedNumbers();
        grazedWithoutACounty();
        grazedInTheLastYear();
        shutsNumbers();
        shutsOfNoneAndOfAll();
        shutsInTheLastYear();
        shutsHoldsAll();
        luresNumbers();
        luresOfNoneAndOfAll();
        luresBehindTheLastYear();
        luresOfTheDead();
        starveNumbers();
        starveBehindSixtyAtMost();
        starveOfTheDead();

        wayNumbers();
        wayOfTheDead();
        wayOfNoneAndOfSix();
        reachNumbers();
        reachOfTheDead();
        homeWithoutACounty();
        homeOfNoneAndOfAll();
        fedNumbers();
        fedWithoutACounty();
        fedOfNoneAndOfSixty();
        due.end();
    }

    private static void put(GridQuarrels x, int parish, int n) {
        for (int left = n; left > 0; left -= 9) {
            x.hay(parish, Math.min(9, left));
        }
    }

    /** A bull in 0, that eats there for so many years, then goes to 1, where most lies. */
    private static Twins.Past leavesBehind(int years) {
        return x -> {
            Due.tell(x, "c3,0;r0,1,0;b0,5,0;m1,1,1;p2,1,2;");
            put(x, 1, 99);
            put(x, 0, years);
        };
    }

    private static void aheadNumbers() {
        due.promise(18);
        new Bounds(due, "ahead", LEAST, (x, n) -> x.ahead(n[0], n[1], n[2]), 0, 1, 0)
            .number(0, 0, 0).number(1, 0, 60).number(2, 0, 1);
        new Bounds(due, "ahead", Twins.RICH, (x, n) -> x.ahead(n[0], n[1], n[2]), 0, 1, 0)
            .number(0, 0, 4).number(1, 0, 60).number(2, 0, 1);
        new Bounds(due, "ahead", Twins.BRIM, (x, n) -> x.ahead(n[0], n[1], n[2]), 0, 1, 0)
            .number(0, 0, 1).number(1, 0, 60).number(2, 0, 1);
    }

    private static void aheadOfNoneAndOfSixty() {
        due.promise(18);
        twins.tells("ahead(0, 0, 0) is where it is", Twins.RICH, x -> x.ahead(0, 0, 0), 6);
        twins.tells("ahead(1, 0, 1) is how big it is", Twins.RICH, x -> x.ahead(1, 0, 1), 6);
        twins.tells("it eats 59", leavesBehind(59), x -> x.ahead(0, 59, 0), 0);
        twins.tells("and goes behind 60", leavesBehind(59), x -> x.ahead(0, 60, 0), 1);
        twins.tells("it is 9 then", leavesBehind(59), x -> x.ahead(0, 60, 1), 9);
        twins.tells("it eats 60", leavesBehind(60), x -> x.ahead(0, 60, 0), 0);
        twins.tells("60 years in YEAR 999", Twins.BRIM, x -> x.ahead(0, 60, 1), 1);
    }

    private static void aheadOfTheDead() {
        due.promise(18);
        for (int n = 0; n <= 60; n += 30) {
            int years = n;
            twins.tells("where a dead one was", Twins.RICH, x -> x.ahead(3, years, 0), 3);
            twins.tells("how big a dead one is", Twins.RICH, x -> x.ahead(3, years, 1), 0);
        }
        GridQuarrels x = Due.told("c2,0;r0,1,9;p1,9,0;");
        for (int n = 0; n <= 60; n++) {
            due.is("size behind " + n, x.ahead(0, n, 1), Math.max(0, 9 - n));
            due.is("place behind " + n, x.ahead(0, n, 0), 1);
        }
    }

    private static void hayAheadNumbers() {
        due.promise(19);
        new Bounds(due, "hayAhead", LEAST, (x, n) -> x.hayAhead(n[0], n[1]), 0, 1).number(0, 0, 1).number(1, 0, 60);
        new Bounds(due, "hayAhead", Twins.RICH, (x, n) -> x.hayAhead(n[0], n[1]), 0, 1).number(0, 0, 6).number(1, 0, 60);
        new Bounds(due, "hayAhead", Twins.BRIM, (x, n) -> x.hayAhead(n[0], n[1]), 0, 1).number(0, 0, 1).number(1, 0, 60);
    }

    private static void hayAheadOfNoneAndOfSixty() {
        due.promise(19);
        twins.tells("hayAhead(1, 0) is what lies there", Twins.RICH, x -> x.hayAhead(1, 0), 3);
        twins.tells("99 that none eats", Twins.BRIM, x -> x.hayAhead(1, 60), 99);
        GridQuarrels x = Due.told("c2,0;r0,1,9;m0,1,0;");
        put(x, 0, 40);
        for (int n = 0; n <= 60; n++) {
            due.is("40 hay behind " + n, x.hayAhead(0, n), Math.max(0, 40 - n));
        }
        put(x, 0, 99);
        due.is("99 hay behind 60", x.hayAhead(0, 60), 39);
    }

    private static void diesNumbers() {
        due.promise(20);
        new Bounds(due, "dies", LEAST, (x, n) -> x.dies(n[0]), 0).number(0, 0, 0);
        new Bounds(due, "dies", Twins.RICH, (x, n) -> x.dies(n[0]), 0).number(0, 0, 4);
        new Bounds(due, "dies", Twins.BRIM, (x, n) -> x.dies(n[0]), 0).number(0, 0, 1);
    }

    /** It eats all that lies there, then starves: the year it dies in is told by hay and size. */
    private static void diesBehindSixtyAtMost() {
        due.promise(20);
        int[] hays = {0, 1, 2, 8, 49, 50, 51, 52, 53, 99};
        for (int hay : hays) {
            for (int size = 1; size <= 9; size++) {
                for (char sort : "ptkbm".toCharArray()) {
                    GridQuarrels x = Due.told("c2,0;r0,1,9;" + sort + "0," + size + ",0;");
                    put(x, 0, hay);
                    int death = hay + Math.min(9, size + hay * (sort == 'k' ? 2 : 1));
                    due.is(sort + " with " + hay + " hay and size " + size + ": dies(0)", x.dies(0),
                        sort == 'm' || death > 60 ? Due.NONE : death);
                }
            }
        }
        twins.tells("dies(3), it is dead", Twins.RICH, x -> x.dies(3), 0);
        twins.tells("dies(0), size 1", Twins.RICH, x -> x.dies(0), 1);
        twins.tells("dies(4), a tame one", Twins.RICH, x -> x.dies(4), Due.NONE);
        twins.tells("dies(0) in YEAR 999", Twins.BRIM, x -> x.dies(0), Due.NONE);
    }

    private static void comesNumbers() {
        due.promise(21);
        new Bounds(due, "comes", LEAST, (x, n) -> x.comes(n[0], n[1]), 0, 0).number(0, 0, 0).number(1, 0, 1);
        new Bounds(due, "comes", Twins.RICH, (x, n) -> x.comes(n[0], n[1]), 0, 0).number(0, 0, 4).number(1, 0, 6);
        new Bounds(due, "comes", Twins.BRIM, (x, n) -> x.comes(n[0], n[1]), 0, 0).number(0, 0, 1).number(1, 0, 1);
    }

    private static void comesBehindSixtyAtMost() {
        due.promise(21);
        int[] years = {0, 1, 57, 58, 59, 60, 61};
        for (int n : years) {
            twins.tells("comes(0, 1) from " + n + " hay", leavesBehind(n), x -> x.comes(0, 1), n < 60 ? n + 1 : Due.NONE);
            twins.tells("comes(0, 0), it is there", leavesBehind(n), x -> x.comes(0, 0), 0);
            twins.tells("comes(0, 2), no road goes there", leavesBehind(n), x -> x.comes(0, 2), Due.NONE);
        }
    }

    private static void comesOfTheDead() {
        due.promise(21);
        for (int p = 0; p < 7; p++) {
            int parish = p;
            twins.tells("comes(3, " + p + ") of a dead one", Twins.RICH, x -> x.comes(3, parish), Due.NONE);
        }
        twins.tells("comes(2, 2), it is there, though it dies", leavesBehind(0), x -> x.comes(2, 2), 0);
    }

    private static void meetNumbers() {
        due.promise(22);
        new Bounds(due, "meet", Twins.RICH, (x, n) -> x.meet(n[0], n[1]), 0, 1).takes(0, 0).takes(0, 4)
            .refusesBelow(0, 0).refusesAbove(0, 4).takes(1, 1).takes(1, 4).refusesBelow(1, 0).refusesAbove(1, 4);
        new Bounds(due, "meet", Twins.BRIM, (x, n) -> x.meet(n[0], n[1]), 0, 1)
            .refusesBelow(0, 0).refusesAbove(0, 1).refusesBelow(1, 0).refusesAbove(1, 1);
        new Bounds(due, "meet", LEAST, (x, n) -> x.meet(n[0], n[1]), 0, 0)
            .refusesBelow(0, 0).refusesAbove(0, 0).refusesBelow(1, 0).refusesAbove(1, 0);
    }

    private static void meetAlike() {
        due.promise(22);
        for (int q = -1; q <= 5; q++) {
            int one = q;
            twins.refuses("meet(" + q + ", " + q + ")", Twins.RICH, x -> x.meet(one, one), Due.BAD);
        }
        twins.refuses("meet(0, 0) of the only one", LEAST, x -> x.meet(0, 0), Due.BAD);
    }

    private static void meetBehindSixtyAtMost() {
        due.promise(22);
        int[] years = {0, 1, 58, 59, 60, 61};
        for (int n : years) {
            int want = n < 60 ? n + 1 : Due.NONE;
            twins.tells("meet(0, 1) from " + n + " hay", leavesBehind(n), x -> x.meet(0, 1), want);
            twins.tells("meet(1, 0) from " + n + " hay", leavesBehind(n), x -> x.meet(1, 0), want);
        }
        GridQuarrels x = Due.told("c2,0;r0,1,9;p0,1,0;p0,1,0;m1,1,0;");
        due.is("they are in one now", x.meet(0, 1), 0);
        due.is("they are in one now, either way", x.meet(1, 0), 0);
        due.is("they are apart", x.meet(0, 2), Due.NONE);
    }

    private static void meetOfTheDead() {
        due.promise(22);
        GridQuarrels x = Due.told("c2,0;r0,1,9;p0,1,0;p0,1,0;m0,1,0;m0,1,0;");
        x.years(1);
        due.is("two dead ones", x.meet(0, 1), Due.NONE);
        due.is("a dead one and a living one", x.meet(0, 2), Due.NONE);
        due.is("a living one and a dead one", x.meet(2, 0), Due.NONE);
        due.is("two living ones", x.meet(2, 3), 0);
        twins.tells("meet(0, 3) of a dead one", Twins.RICH, y -> y.meet(0, 3), Due.NONE);
        twins.tells("meet(3, 0) of a dead one", Twins.RICH, y -> y.meet(3, 0), Due.NONE);
    }

    private static void grazedNumbers() {
        due.promise(23);
        for (Twins.Past past : new Twins.Past[] {LEAST, Twins.RICH, Twins.BRIM}) {
            new Bounds(due, "grazed", past, (x, n) -> x.grazed(n[0]), 1).number(0, 1, 60);
        }
    }

    private static void grazedWithoutACounty() {
        due.promise(23);
        int[] numbers = {Integer.MIN_VALUE, -1, 0, 1, 60, 61, Integer.MAX_VALUE};
        for (int n : numbers) {
            twins.refuses("no county: grazed(" + n + ")", Twins.BARE, x -> x.grazed(n), Due.STATE);
            twins.refuses("no county: grazed(" + n + ")", Twins.UNTOLD, x -> x.grazed(n), Due.STATE);
        }
    }

    private static void grazedInTheLastYear() {
        due.promise(23);
        GridQuarrels x = Due.told("c2,0;r0,1,0;b0,5,0;");
        due.is("none eats, in 1", x.grazed(1), 0);
        due.is("none eats, in 60", x.grazed(60), 0);
        put(x, 0, 59);
        put(x, 1, 1);
        for (int n = 1; n <= 60; n++) {
            due.is("grazed(" + n + ")", x.grazed(n), n < 60 ? 1 : 3);
        }
        x.hay(0, 1);
        due.is("60 in 0", x.grazed(60), 1);
        twins.tells("grazed(60)", Twins.RICH, y -> y.grazed(60), 3);
        x = Due.told("c7,9;r5,6,9;p0,1,0;p1,1,0;p2,1,0;p3,1,0;p6,1,0;");
        due.is("where all five stand", x.grazed(1), 79);
    }

    private static void shutsNumbers() {
        due.promise(24);
        new Bounds(due, "shuts", LEAST, (x, n) -> x.shuts(n[0], n[1], n[2]), 0, 1, 0)
            .number(0, 0, 1).number(1, 1, 30).number(2, 0, 1);
        new Bounds(due, "shuts", Twins.RICH, (x, n) -> x.shuts(n[0], n[1], n[2]), 0, 1, 0)
            .number(0, 0, 6).number(1, 1, 30).number(2, 0, 1);
        new Bounds(due, "shuts", Twins.BRIM, (x, n) -> x.shuts(n[0], n[1], n[2]), 0, 1, 0)
            .number(0, 0, 1).number(1, 1, 30).number(2, 0, 1);
    }

    private static void shutsOfNoneAndOfAll() {
        due.promise(24);
        Twins.Past seven = x -> {
            Due.tell(x, "c2,0;r0,1,0;r1,0,1;r0,1,2;r1,0,3;r0,1,4;r1,0,5;r0,1,6;p0,9,0;");
            x.hay(1, 1);
        };
        twins.tells("all seven, how many", seven, x -> x.shuts(1, 1, 0), 7);
        twins.tells("all seven, which", seven, x -> x.shuts(1, 1, 1), 127);
        twins.tells("where it is, how many", seven, x -> x.shuts(0, 30, 0), 0);
        twins.tells("where it is, which", seven, x -> x.shuts(0, 30, 1), 0);
        GridQuarrels x = Twins.made(seven);
        x.grid(6, 9);
        due.is("one that it does not cross, how many", x.shuts(1, 1, 0), 6);
        due.is("one that it does not cross, which", x.shuts(1, 1, 1), 63);
        x.grid(6, 0);
        x.grid(0, 9);
        due.is("the first that it does not cross", x.shuts(1, 1, 1), 126);
        x = Due.told("c2,0;r0,1,0;p0,1,0;");
        x.years(1);
        x.hay(1, 9);
        due.is("a dead one does not come", x.shuts(1, 30, 0), 0);
    }

    private static void shutsInTheLastYear() {
        due.promise(24);
        for (int n = 1; n <= 30; n++) {
            int years = n;
            twins.tells("it comes behind one more", leavesBehind(n), x -> x.shuts(1, years, 0), 0);
            twins.tells("it comes behind the last", leavesBehind(n - 1), x -> x.shuts(1, years, 0), 1);
            twins.tells("it comes behind the last, which", leavesBehind(n - 1), x -> x.shuts(1, years, 1), 1);
        }
    }

    /** 12 holds the largest thin one, however long; 9 would not. Of several sets the least is told. */
    private static void shutsHoldsAll() {
        due.promise(24);
        GridQuarrels x = Due.told("c2,0;r0,1,9;r0,1,9;t0,9,0;t0,9,0;p0,9,0;");
        put(x, 1, 99);
        put(x, 0, 98);
        due.is("it crosses 9", x.quarrel(0, 3), 3);
        due.is("both roads are to be shut", x.shuts(1, 30, 1), 3);
        x = Due.told("c4,0;r0,1,0;r1,2,0;r2,3,0;b0,9,0;");
        put(x, 1, 1);
        put(x, 2, 2);
        put(x, 3, 3);
        due.is("one of three", x.shuts(3, 30, 0), 1);
        due.is("the least of three", x.shuts(3, 30, 1), 1);
        due.is("the least of two", x.shuts(2, 30, 1), 1);
    }

    private static void luresNumbers() {
        due.promise(25);
        new Bounds(due, "lures", LEAST, (x, n) -> x.lures(n[0], n[1], n[2], n[3]), 0, 0, 1, 0)
            .number(0, 0, 0).number(1, 0, 1).number(2, 1, 30).number(3, 0, 1);
        new Bounds(due, "lures", Twins.RICH, (x, n) -> x.lures(n[0], n[1], n[2], n[3]), 0, 0, 1, 0)
            .number(0, 0, 4).number(1, 0, 6).number(2, 1, 30).number(3, 0, 1);
        new Bounds(due, "lures", Twins.BRIM, (x, n) -> x.lures(n[0], n[1], n[2], n[3]), 0, 0, 1, 0)
            .number(0, 0, 1).number(1, 0, 1).number(2, 1, 30).number(3, 0, 1);
    }

    private static void luresOfNoneAndOfAll() {
        due.promise(25);
        twins.tells("a tame one stays by itself", LEAST, x -> x.lures(0, 0, 30, 0), 0);
        twins.tells("by none", LEAST, x -> x.lures(0, 0, 30, 1), 0);
        twins.tells("by one, how many", LEAST, x -> x.lures(0, 1, 1, 0), 1);
        twins.tells("by one, which", LEAST, x -> x.lures(0, 1, 1, 1), 2);
        twins.tells("beyond a grid, how many", Twins.BRIM, x -> x.lures(0, 1, 30, 0), Due.NONE);
        twins.tells("beyond a grid, which", Twins.BRIM, x -> x.lures(0, 1, 30, 1), Due.NONE);
        Twins.Past all = x -> {
            Due.tell(x, "c7,0;r1,3,1;r3,6,2;r5,2,0;r0,4,2;r1,2,0;r6,0,2;r6,1,9;p0,9,0;");
            x.hay(4, 4);
        };
        twins.tells("by all seven, how many", all, x -> x.lures(0, 5, 12, 0), 7);
        twins.tells("by all seven, which", all, x -> x.lures(0, 5, 12, 1), 127);
        GridQuarrels x = Due.told("c4,0;r0,2,0;r0,1,0;r1,3,0;r2,3,0;p0,9,0;");
        put(x, 3, 20);
        due.is("by way of 1 or 2, the least", x.lures(0, 3, 2, 1), 2);
    }

    private static void luresBehindTheLastYear() {
        due.promise(25);
        for (int n = 1; n <= 30; n++) {
            int years = n;
            twins.tells("it comes by itself", leavesBehind(n - 1), x -> x.lures(0, 1, years, 0), 0);
            twins.tells("it does not come, and by no hay", leavesBehind(n), x -> x.lures(0, 1, years, 0), Due.NONE);
        }
        // 9 hay keep a plain one of size 1 for 9 years; it is dead behind 18.
        GridQuarrels x = Due.told("c2,0;r0,1,9;p0,1,0;");
        due.is("without hay", x.lures(0, 0, 1, 1), 1);
        due.is("behind 17", x.lures(0, 0, 17, 1), 1);
        due.is("behind 18", x.lures(0, 0, 18, 1), Due.NONE);
        due.is("behind 30", x.lures(0, 0, 30, 0), Due.NONE);
        x = Due.told("c3,0;r0,2,0;r0,1,0;p0,1,0;");
        put(x, 1, 90);
        put(x, 2, 90);
        due.is("99 for 90", x.lures(0, 1, 1, 1), 2);
        put(x, 2, 9);
        due.is("99 at most, as in 2", x.lures(0, 1, 1, 0), Due.NONE);
    }

    private static void luresOfTheDead() {
        due.promise(25);
        for (int p = 0; p < 7; p++) {
            int parish = p;
            twins.tells("lures(3, " + p + ", 1, 0)", Twins.RICH, x -> x.lures(3, parish, 1, 0), Due.NONE);
            twins.tells("lures(3, " + p + ", 30, 1)", Twins.RICH, x -> x.lures(3, parish, 30, 1), Due.NONE);
        }
    }

    private static void starveNumbers() {
        due.promise(26);
        new Bounds(due, "starve", LEAST, (x, n) -> x.starve(n[0], n[1]), 0, 0).number(0, 0, 0).number(1, 0, 1);
        new Bounds(due, "starve", Twins.RICH, (x, n) -> x.starve(n[0], n[1]), 0, 0).number(0, 0, 4).number(1, 0, 1);
        new Bounds(due, "starve", Twins.BRIM, (x, n) -> x.starve(n[0], n[1]), 0, 0).number(0, 0, 1).number(1, 0, 1);
    }

    /** Two parishes with as much hay: without the one it eats in the other, then starves. */
    private static void starveBehindSixtyAtMost() {
        due.promise(26);
        int[] hays = {0, 1, 50, 51, 52, 99};
        for (int hay : hays) {
            Twins.Past two = x -> {
                Due.tell(x, "c2,0;r0,1,0;b0,9,0;");
                put(x, 0, hay);
                put(x, 1, hay);
            };
            twins.tells("with " + hay + ", which", two, x -> x.starve(0, 0), hay <= 51 ? 0 : Due.NONE);
            twins.tells("with " + hay + ", behind how many", two, x -> x.starve(0, 1), hay <= 51 ? hay + 9 : Due.NONE);
        }
        GridQuarrels x = Due.told("c3,5;r0,1,9;p2,1,0;");
        due.is("soonest by its own", x.starve(0, 0), 2);
        due.is("behind 1", x.starve(0, 1), 1);
        due.is("a tame one does not", Twins.made(LEAST).starve(0, 0), Due.NONE);
        due.is("a tame one does not, either", Twins.made(LEAST).starve(0, 1), Due.NONE);
    }

    private static void starveOfTheDead() {
        due.promise(26);
        twins.tells("starve(3, 0)", Twins.RICH, x -> x.starve(3, 0), Due.NONE);
        twins.tells("starve(3, 1)", Twins.RICH, x -> x.starve(3, 1), Due.NONE);
        twins.tells("starve(1, 0)", Twins.BRIM, x -> x.starve(1, 0), Due.NONE);
    }

    private static void wayNumbers() {
        due.promise(27);
        new Bounds(due, "way", LEAST, (x, n) -> x.way(n[0], n[1]), 0, 0).number(0, 0, 0).number(1, 0, 1);
        new Bounds(due, "way", Twins.RICH, (x, n) -> x.way(n[0], n[1]), 0, 0).number(0, 0, 4).number(1, 0, 6);
        new Bounds(due, "way", Twins.BRIM, (x, n) -> x.way(n[0], n[1]), 0, 0).number(0, 0, 1).number(1, 0, 1);
    }

    private static void wayOfTheDead() {
        due.promise(27);
        twins.refuses("way(3, 3) of a dead one, where it was", Twins.RICH, x -> x.way(3, 3), Due.STATE);
        twins.refuses("way(3, 0) of a dead one", Twins.RICH, x -> x.way(3, 0), Due.STATE);
        twins.refuses("BAD ahead of STATE: way(3, 7)", Twins.RICH, x -> x.way(3, 7), Due.BAD);
        twins.refuses("BAD ahead of STATE: way(3, -1)", Twins.RICH, x -> x.way(3, -1), Due.BAD);
        GridQuarrels x = Due.told("c2,0;r0,1,0;p0,2,0;");
        x.years(1);
        due.is("of one that is 1", x.way(0, 1), 1);
        x.years(1);
        due.is("of one that is 0", x.way(0, 1), Due.STATE);
    }

    private static void wayOfNoneAndOfSix() {
        due.promise(27);
        Twins.Past chain = x -> Due.tell(x, "c7,9;r6,5,0;r4,5,1;r4,3,2;r2,3,3;r2,1,4;r0,1,5;b6,6,0;t0,2,0;k6,9,0;");
        for (int p = 0; p < 7; p++) {
            int parish = p;
            twins.tells("way(0, " + p + ")", chain, x -> x.way(0, parish), 6 - p);
            twins.tells("way(1, " + p + ")", chain, x -> x.way(1, parish), p == 0 ? 0 : Due.NONE);
            twins.tells("way(2, " + p + ")", chain, x -> x.way(2, parish), p >= 5 ? 6 - p : Due.NONE);
        }
        GridQuarrels x = Twins.made(chain);
        x.grow(0, 5);
        due.is("one less, all but the last", x.way(0, 1), 5);
        due.is("one less, the last", x.way(0, 0), Due.NONE);
    }

    private static void reachNumbers() {
        due.promise(28);
        new Bounds(due, "reach", LEAST, (x, n) -> x.reach(n[0]), 0).number(0, 0, 0);
        new Bounds(due, "reach", Twins.RICH, (x, n) -> x.reach(n[0]), 0).number(0, 0, 4);
        new Bounds(due, "reach", Twins.BRIM, (x, n) -> x.reach(n[0]), 0).number(0, 0, 1);
        twins.tells("reach(0), where it is alone", Twins.RICH, x -> x.reach(0), 64);
        twins.tells("reach(1), all", Twins.RICH, x -> x.reach(1), 127);
        twins.tells("reach(2), a calf by a grid of 0", Twins.RICH, x -> x.reach(2), 12);
        twins.tells("reach(0), by one road", LEAST, x -> x.reach(0), 3);
    }

    private static void reachOfTheDead() {
        due.promise(28);
        twins.refuses("reach(3)", Twins.RICH, x -> x.reach(3), Due.STATE);
        twins.refuses("reach(1)", Twins.BRIM, x -> x.reach(1), Due.STATE);
    }

    private static void homeWithoutACounty() {
        due.promise(29);
        twins.refuses("home() of a new object", Twins.BARE, x -> x.home(), Due.STATE);
        twins.refuses("home() without a county", Twins.UNTOLD, x -> x.home(), Due.STATE);
    }

    private static void homeOfNoneAndOfAll() {
        due.promise(29);
        twins.tells("home()", Twins.RICH, x -> x.home(), 2 | 16);
        GridQuarrels x = Due.told("c7,0;r0,1,0;m0,1,0;p6,1,6;t3,2,3;k2,3,2;b1,4,1;");
        int[] home = {31, 29, 25, 17, 1, 1};
        for (int n = 0; n < home.length; n++) {
            due.is("behind " + n + " years", x.home(), home[n]);
            x.years(1);
        }
        x.drive(0, 0);
        due.is("none", x.home(), 0);
    }

    private static void fedNumbers() {
        due.promise(30);
        for (Twins.Past past : new Twins.Past[] {LEAST, Twins.RICH, Twins.BRIM}) {
            new Bounds(due, "fed", past, (x, n) -> x.fed(n[0], n[1]), 1, 0).number(0, 1, 60).number(1, 0, 1);
        }
    }

    private static void fedWithoutACounty() {
        due.promise(30);
        int[] numbers = {Integer.MIN_VALUE, -1, 0, 1, 60, 61, Integer.MAX_VALUE};
        for (int n : numbers) {
            twins.refuses("no county: fed(" + n + ", 0)", Twins.BARE, x -> x.fed(n, 0), Due.STATE);
            twins.refuses("no county: fed(1, " + n + ")", Twins.UNTOLD, x -> x.fed(1, n), Due.STATE);
        }
    }

    private static void fedOfNoneAndOfSixty() {
        due.promise(30);
        twins.tells("none eats: the first", LEAST, x -> x.fed(60, 0), 0);
        twins.tells("none eats: no time", LEAST, x -> x.fed(60, 1), 0);
        twins.tells("the first eats most: which", leavesBehind(60), x -> x.fed(60, 0), 0);
        twins.tells("the first eats most: how often", leavesBehind(60), x -> x.fed(60, 1), 60);
        GridQuarrels x = Due.told("c5,0;r3,4,9;b0,9,0;b1,9,0;b2,9,0;");
        put(x, 1, 60);
        put(x, 2, 61);
        due.is("59 times, the first of two", x.fed(59, 0), 1);
        due.is("59 times", x.fed(59, 1), 59);
        due.is("60 times, the first of two", x.fed(60, 0), 1);
        due.is("60 times", x.fed(60, 1), 60);
        due.is("once, in 1 year", x.fed(1, 1), 1);
        x.years(1);
        due.is("one has less now", x.fed(60, 0), 2);
        due.is("60 times of 60", x.fed(60, 1), 60);
        due.is("59 times of 59", x.fed(59, 0), 1);
        x = Due.told("c2,0;r0,1,9;p0,1,0;p1,1,0;");
        x.years(1);
        x.hay(1, 9);
        due.is("all are dead: the first", x.fed(60, 0), 0);
        due.is("all are dead: no time", x.fed(60, 1), 0);
    }
}
