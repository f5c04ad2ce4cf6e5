/** The boundary cases of promise 10, and of crossing, going, eating, dying in the terms: one test for each sentence. */
public final class EdgesYearsTest {
    private static final Due due = new Due();
    private static final Twins twins = new Twins(due);
    private static final String SORTS = "ptkbm";

    public static void main(String[] args) {
        crossesByKind();
        goesByWhatItCrosses();
        wouldGoByHay();
        goesOnlyToMoreHay();
        goesToMostHay();
        goesToTheFirstOfSeveral();
        goesOneRoadAYear();
        eatsTheLastHay();
        growsToNineAtMost();
        isDeadAtNought();
        tameIsOneAtLeast();
        theDeadDoNothing();
        byNumbers();

        yearsNumbers();
        yearsWithoutACounty();
        yearsAheadOfTheLast();
        yearsAreFullBehindTheLast();
        yearsAreBadAheadOfFull();
        yearsThatWouldWrap();
        yearsAreAnActEach();
        yearsTellTheLiving();
        due.end();
    }

    private static boolean crosses(int kind, int size, int grid) {
        switch (kind) {
            case 2: return grid < size + 3;
            case 3: return grid == 0;
            default: return grid < size;
        }
    }

    /** No hay but what is put in 1. */
    private static GridQuarrels onOneRoad(int kind, int size, int grid) {
        return Due.told("c2,0;r0,1," + grid + ";" + SORTS.charAt(kind - 1) + "0," + size + ",0;");
    }

    private static void crossesByKind() {
        due.promise(15);
        for (int kind = 1; kind <= 5; kind++) {
            for (int size = 1; size <= 9; size++) {
                for (int grid = 0; grid <= 9; grid++) {
                    GridQuarrels x = onOneRoad(kind, size, grid);
                    due.is("kind " + kind + ", size " + size + ", grid " + grid + ": crosses",
                        x.quarrel(0, 3), crosses(kind, size, grid) ? 1 : 0);
                    due.is("kind " + kind + ", size " + size + ", grid " + grid + ": way",
                        x.way(0, 1), crosses(kind, size, grid) ? 1 : Due.NONE);
                }
            }
        }
    }

    private static void goesByWhatItCrosses() {
        due.promise(10);
        for (int kind = 1; kind <= 5; kind++) {
            for (int size = 1; size <= 9; size++) {
                for (int grid = 0; grid <= 9; grid++) {
                    GridQuarrels x = onOneRoad(kind, size, grid);
                    x.hay(1, 1);
                    int there = crosses(kind, size, grid) ? 1 : 0;
                    due.is("where it would be", x.quarrel(0, 4), there);
                    x.years(1);
                    due.is("kind " + kind + ", size " + size + ", grid " + grid + ": goes", x.quarrel(0, 0), there);
                    due.is("it eats the one hay there", x.parish(1, 0), 1 - there);
                }
            }
        }
    }

    private static int goes(int kind, int hayHere, int hayThere) {
        GridQuarrels x = onOneRoad(kind, 9, 0);
        put(x, 0, hayHere);
        put(x, 1, hayThere);
        x.years(1);
        return x.quarrel(0, 0);
    }

    private static void put(GridQuarrels x, int parish, int n) {
        for (int left = n; left > 0; left -= 9) {
            x.hay(parish, Math.min(9, left));
        }
    }

    private static void wouldGoByHay() {
        due.promise(10);
        for (int kind = 1; kind <= 5; kind++) {
            boolean stays = kind >= 4;
            due.is("kind " + kind + " without hay", goes(kind, 0, 9), 1);
            due.is("kind " + kind + " with 1 hay", goes(kind, 1, 9), stays ? 0 : 1);
            due.is("kind " + kind + " with 98 hay", goes(kind, 98, 99), stays ? 0 : 1);
        }
    }

    private static void goesOnlyToMoreHay() {
        due.promise(10);
        for (int kind = 1; kind <= 5; kind++) {
            due.is("kind " + kind + ", none and none", goes(kind, 0, 0), 0);
            due.is("kind " + kind + ", none and 1", goes(kind, 0, 1), 1);
            due.is("kind " + kind + ", 5 and 4", goes(kind, 5, 4), 0);
            due.is("kind " + kind + ", 5 and 5", goes(kind, 5, 5), 0);
            due.is("kind " + kind + ", 5 and 6", goes(kind, 5, 6), kind >= 4 ? 0 : 1);
            due.is("kind " + kind + ", 99 and 99", goes(kind, 99, 99), 0);
        }
    }

    private static void goesToMostHay() {
        due.promise(10);
        int[] most = {1, 2, 3};
        for (int best : most) {
            GridQuarrels x = Due.told("c4,1;r0,1,0;r2,0,0;r0,3,0;p0,9,0;");
            for (int p = 1; p <= 3; p++) {
                x.hay(p, p == best ? 2 : 1);
            }
            due.is("where most lies", x.quarrel(0, 4), best);
            x.years(1);
            due.is("it is there", x.quarrel(0, 0), best);
        }
        GridQuarrels x = Due.told("c4,0;r0,1,0;r0,2,8;r0,3,9;p0,9,0;");
        x.hay(1, 1);
        x.hay(2, 2);
        x.hay(3, 3);
        due.is("of those that it crosses", x.quarrel(0, 4), 2);
        x.grid(1, 9);
        due.is("of those that it crosses, one less", x.quarrel(0, 4), 1);
        x.grid(0, 9);
        due.is("none that it crosses", x.quarrel(0, 4), 0);
    }

    private static void goesToTheFirstOfSeveral() {
        due.promise(10);
        due.is("roads 0 and 1", Due.told("c4,1;r0,3,0;r0,1,0;p0,9,0;").quarrel(0, 4), 0);
        GridQuarrels x = Due.told("c4,0;r2,3,0;r0,3,0;r1,0,0;r0,2,0;p0,9,0;");
        x.hay(1, 5);
        x.hay(2, 5);
        x.hay(3, 5);
        due.is("the first road from there, not the least parish", x.quarrel(0, 4), 3);
        x.grid(1, 9);
        due.is("the next", x.quarrel(0, 4), 1);
        x.hay(2, 1);
        due.is("more at a later one", x.quarrel(0, 4), 2);
    }

    private static void goesOneRoadAYear() {
        due.promise(10);
        GridQuarrels x = Due.told("c3,0;r0,1,0;r1,2,0;p0,9,0;");
        x.hay(1, 1);
        x.hay(2, 9);
        x.years(1);
        due.is("one road", x.quarrel(0, 0), 1);
        x.years(1);
        due.is("the next road", x.quarrel(0, 0), 2);
    }

    private static void eatsTheLastHay() {
        due.promise(10);
        GridQuarrels x = Due.told("c2,1;r0,1,9;p0,5,0;");
        x.years(1);
        due.is("it eats 1 of 1", x.parish(0, 0), 0);
        due.is("it is 1 more", x.quarrel(0, 1), 6);
        x.years(1);
        due.is("no hay is less than none", x.parish(0, 0), 0);
        due.is("it is 1 less", x.quarrel(0, 1), 5);
        x = Due.told("c2,0;r0,1,9;p0,5,0;");
        put(x, 0, 99);
        x.years(1);
        due.is("1 of 99", x.parish(0, 0), 98);
    }

    private static void growsToNineAtMost() {
        due.promise(10);
        for (int kind = 1; kind <= 5; kind++) {
            for (int size = 1; size <= 9; size++) {
                GridQuarrels x = onOneRoad(kind, size, 9);
                x.hay(0, 1);
                x.years(1);
                due.is("kind " + kind + ", size " + size + ", eats", x.quarrel(0, 1), Math.min(9, size + (kind == 3 ? 2 : 1)));
            }
        }
    }

    private static void isDeadAtNought() {
        due.promise(10);
        for (int kind = 1; kind <= 4; kind++) {
            for (int size = 1; size <= 9; size++) {
                GridQuarrels x = onOneRoad(kind, size, 9);
                due.is("kind " + kind + ", size " + size + ", starves", x.years(1), size == 1 ? 0 : 1);
                due.is("kind " + kind + ", size " + size + ", is less", x.quarrel(0, 1), size - 1);
            }
        }
    }

    private static void tameIsOneAtLeast() {
        due.promise(10);
        for (int size = 1; size <= 9; size++) {
            GridQuarrels x = onOneRoad(5, size, 9);
            due.is("a tame one, size " + size, x.years(1), 1);
            due.is("its size", x.quarrel(0, 1), Math.max(1, size - 1));
        }
        GridQuarrels x = onOneRoad(5, 1, 9);
        due.is("24 years", x.years(24), 1);
        due.is("its size behind 24 years", x.quarrel(0, 1), 1);
        x.hay(0, 1);
        x.years(1);
        due.is("it eats as others do", x.quarrel(0, 1), 2);
    }

    private static void theDeadDoNothing() {
        due.promise(10);
        for (int kind = 1; kind <= 4; kind++) {
            GridQuarrels x = onOneRoad(kind, 1, 0);
            x.years(1);
            x.hay(0, 3);
            x.hay(1, 9);
            due.is("none lives", x.years(24), 0);
            due.is("it is where it was", x.quarrel(0, 0), 0);
            due.is("it is 0 yet", x.quarrel(0, 1), 0);
            due.is("no hay is eaten", x.count(5), 12);
        }
    }

    /** All five stand by 2 hay: the first two eat, the others do not. */
    private static void byNumbers() {
        due.promise(10);
        GridQuarrels x = Due.told("c2,2;r0,1,9;p0,1,0;p0,1,0;p0,1,0;p0,1,0;p0,1,0;");
        due.is("two are left", x.years(1), 2);
        due.is("the first two", x.parish(0, 1), 3);
        x = Due.told("c2,0;r0,1,0;p0,9,0;p0,9,0;p1,9,0;");
        x.hay(1, 2);
        x.years(1);
        due.is("0 goes to 2 hay", x.quarrel(0, 0), 1);
        due.is("1 goes to what is left", x.quarrel(1, 0), 1);
        due.is("2 finds none", x.quarrel(2, 1), 8);
    }

    private static void yearsNumbers() {
        due.promise(10);
        for (Twins.Past past : new Twins.Past[] {Twins.RICH, x -> Due.tell(x, Twins.SMALL)}) {
            new Bounds(due, "years", past, (x, n) -> x.years(n[0]), 1).number(0, 1, 24);
        }
        for (int n = 1; n <= 24; n++) {
            GridQuarrels x = onOneRoad(5, 9, 9);
            due.is("years(" + n + ")", x.years(n), 1);
            due.is("YEAR", x.count(4), n);
            due.is("size", x.quarrel(0, 1), Math.max(1, 9 - n));
        }
    }

    private static void yearsWithoutACounty() {
        due.promise(10);
        int[] numbers = {Integer.MIN_VALUE, -1, 0, 1, 24, 25, 999, 1000, Integer.MAX_VALUE};
        for (int n : numbers) {
            twins.refuses("no county: years(" + n + ")", Twins.BARE, x -> x.years(n), Due.STATE);
            twins.refuses("no county: years(" + n + ")", Twins.UNTOLD, x -> x.years(n), Due.STATE);
        }
    }

    /** A tame one that stays, in some YEAR. */
    private static Twins.Past inYear(int year) {
        return x -> {
            Due.tell(x, "c2,0;r0,1,9;m0,3,0;");
            for (int left = year; left > 0; left -= 24) {
                x.years(Math.min(24, left));
            }
        };
    }

    private static void yearsAheadOfTheLast() {
        due.promise(10);
        for (int n = 1; n <= 24; n++) {
            GridQuarrels x = Twins.made(inYear(999 - n));
            due.is("years(" + n + ") to 999", x.years(n), 1);
            due.is("YEAR", x.count(4), 999);
            due.is("no year more", x.years(1), Due.FULL);
            due.is("undone", x.undo(), 23);
            due.is("YEAR 998", x.count(4), 998);
            due.is("that year again", x.years(1), 1);
        }
    }

    private static void yearsAreFullBehindTheLast() {
        due.promise(10);
        for (int n = 1; n <= 24; n++) {
            int years = n;
            twins.refuses("years(" + n + ") to 1000", inYear(1000 - n), x -> x.years(years), Due.FULL);
        }
        twins.refuses("years(1) in 999", Twins.BRIM, x -> x.years(1), Due.FULL);
        twins.refuses("years(24) in 999", Twins.BRIM, x -> x.years(24), Due.FULL);
    }

    private static void yearsAreBadAheadOfFull() {
        due.promise(10);
        int[] numbers = {Integer.MIN_VALUE, -1, 0, 25, Integer.MAX_VALUE};
        for (int n : numbers) {
            twins.refuses("years(" + n + ") in 999", Twins.BRIM, x -> x.years(n), Due.BAD);
        }
    }

    private static void yearsThatWouldWrap() {
        due.promise(10);
        int[] numbers = {Integer.MAX_VALUE, Integer.MAX_VALUE - 998, Integer.MAX_VALUE - 999, Integer.MIN_VALUE, -999};
        for (int n : numbers) {
            twins.refuses("years(" + n + ") in 500", inYear(500), x -> x.years(n), Due.BAD);
        }
    }

    private static void yearsAreAnActEach() {
        due.promise(10);
        GridQuarrels x = onOneRoad(5, 9, 9);
        x.years(23);
        due.is("23 acts", x.count(6), 23);
        x.years(1);
        due.is("24 acts", x.count(6), 24);
        x.years(1);
        due.is("24 acts yet", x.count(6), 24);
        for (int n = 23; n >= 0; n--) {
            due.is("undo", x.undo(), n);
            due.is("YEAR", x.count(4), n + 1);
        }
        due.is("the first year is forgotten", x.undo(), Due.STATE);
    }

    private static void yearsTellTheLiving() {
        due.promise(10);
        GridQuarrels x = Due.told("c2,0;r0,1,9;p0,1,0;t0,2,0;k0,3,0;b0,4,0;p0,5,0;");
        for (int living = 4; living >= 0; living--) {
            due.is("one less", x.years(1), living);
        }
        due.is("none", x.years(24), 0);
        due.is("all", Due.told("c2,0;r0,1,9;m0,1,0;m0,1,0;m0,1,0;m0,1,0;m0,1,0;").years(24), 5);
    }
}
