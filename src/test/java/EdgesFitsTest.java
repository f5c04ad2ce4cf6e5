import java.math.BigInteger;

/** The boundary cases of promises 31 to 35: one test for each sentence. */
public final class EdgesFitsTest {
    private static final int LEAST_INT = Integer.MIN_VALUE, MOST_INT = Integer.MAX_VALUE;
    private static final Due due = new Due();
    private static final Twins twins = new Twins(due);
    private static final Twins.Past LEAST = x -> {
        Due.tell(x, "c2,0;r0,1,0;m0,1,0;");
        x.row(0, 0, 12);
        x.set(0, 12, 0);
    };

    public static void main(String[] args) {
        whoNumbers();
        whoOfTheDead();
        whoOfAMissingRow();
        whoBeyondARow();
        whoFindsTheFirst();
        whoOfNoneAndOfAll();
        whoBySizesThatCross();
        whoByWhereItBegan();
        gridsNumbers();
        gridsOfTheDead();
        gridsOfAMissingRow();
        gridsBeyondARow();
        gridsOfNoneAndOfAll();
        whichNumbers();
        whichWithoutACounty();
        whichOfAMissingRow();
        whichBeyondARow();
        whichOfNoneAndOfAll();
        whichInEveryLane();
        twelveYearsAtMost();

        snowNumbers();
        snowOfNoGridAndOfAll();
        snowOfNoYearAndOfThirty();
        snowInLowestTerms();
        snowOfTheDead();
        drawnNumbers();
        drawnWithoutACounty();
        drawnOfNoYear();
        drawnOfSixtyYears();
        drawnHayAtMost();
        drawnFromThenOn();
        due.end();
    }

    private static void whoNumbers() {
        due.promise(31);
        new Bounds(due, "who", LEAST, (x, n) -> x.who(n[0], n[1], n[2], n[3], n[4]), 0, 0, 0, 0, 1)
            .number(0, 0, 0).number(1, 0, 2).number(2, 0, 7).number(4, 1, 12);
        new Bounds(due, "who", Twins.RICH, (x, n) -> x.who(n[0], n[1], n[2], n[3], n[4]), 0, 0, 2, 0, 1)
            .number(0, 0, 4).number(1, 0, 2).number(2, 0, 7).number(4, 1, 12);
        new Bounds(due, "who", Twins.BRIM, (x, n) -> x.who(n[0], n[1], n[2], n[3], n[4]), 0, 0, 0, 0, 1)
            .number(0, 0, 1).number(1, 0, 2).number(2, 0, 7).number(4, 1, 12);
    }

    /** STATE comes behind BAD, and ahead of what is found. */
    private static void whoOfTheDead() {
        due.promise(31);
        for (int which = 0; which <= 2; which++) {
            int of = which;
            twins.refuses("who(3, " + of + ", 2, 0, 1)", Twins.RICH, x -> x.who(3, of, 2, 0, 1), Due.STATE);
        }
        twins.refuses("STATE ahead of NULL: who(3, 0, 7, 0, 1)", Twins.RICH, x -> x.who(3, 0, 7, 0, 1), Due.STATE);
        twins.refuses("STATE ahead of PLACE: who(3, 0, 2, -1, 1)", Twins.RICH, x -> x.who(3, 0, 2, -1, 1), Due.STATE);
        twins.refuses("STATE ahead of PLACE: who(3, 0, 3, 0, 1)", Twins.RICH, x -> x.who(3, 0, 3, 0, 1), Due.STATE);
        twins.refuses("BAD ahead of STATE: who(3, 3, 2, 0, 1)", Twins.RICH, x -> x.who(3, 3, 2, 0, 1), Due.BAD);
        twins.refuses("BAD ahead of STATE: who(3, -1, 2, 0, 1)", Twins.RICH, x -> x.who(3, -1, 2, 0, 1), Due.BAD);
        twins.refuses("BAD ahead of STATE: who(3, 0, 8, 0, 1)", Twins.RICH, x -> x.who(3, 0, 8, 0, 1), Due.BAD);
        twins.refuses("BAD ahead of STATE: who(3, 0, 2, 0, 0)", Twins.RICH, x -> x.who(3, 0, 2, 0, 0), Due.BAD);
        twins.refuses("BAD ahead of STATE: who(3, 0, 2, 0, 13)", Twins.RICH, x -> x.who(3, 0, 2, 0, 13), Due.BAD);
    }

    private static void whoOfAMissingRow() {
        due.promise(31);
        twins.refuses("who(0, 0, 4, 0, 1)", Twins.RICH, x -> x.who(0, 0, 4, 0, 1), Due.NULL);
        twins.refuses("who(0, 1, 5, 0, 12)", Twins.RICH, x -> x.who(0, 1, 5, 0, 12), Due.NULL);
        twins.refuses("who(0, 2, 7, 0, 1)", Twins.RICH, x -> x.who(0, 2, 7, 0, 1), Due.NULL);
        twins.refuses("BAD ahead of NULL: who(0, 0, 7, 0, 13)", Twins.RICH, x -> x.who(0, 0, 7, 0, 13), Due.BAD);
        twins.refuses("BAD ahead of NULL: who(0, 3, 7, 0, 1)", Twins.RICH, x -> x.who(0, 3, 7, 0, 1), Due.BAD);
    }

    private static int[][] beyond() {
        // Row 0 has 5 items, row 2 has 12, row 3 none, row 6 has 40: each with the first places that are none.
        return new int[][] {{0, -1, 1}, {0, 5, 1}, {0, 4, 2}, {0, 0, 6}, {0, 0, 12}, {2, 1, 12}, {2, 12, 1}, {2, -1, 12},
            {3, 0, 1}, {3, -1, 1}, {6, 29, 12}, {6, 40, 1}, {6, LEAST_INT, 1}, {6, LEAST_INT, 12}, {6, MOST_INT, 1},
            {6, MOST_INT, 12}, {6, MOST_INT - 11, 12}, {6, MOST_INT - 10, 12}, {6, 1 << 30, 12}, {6, -12, 12}};
    }

    private static int[][] within() {
        return new int[][] {{0, 0, 5}, {0, 4, 1}, {0, 0, 1}, {2, 0, 12}, {2, 11, 1}, {6, 28, 12}, {6, 39, 1}};
    }

    private static void whoBeyondARow() {
        due.promise(31);
        for (int[] a : beyond()) {
            twins.refuses("who(0, 0, " + a[0] + ", " + a[1] + ", " + a[2] + ")", Twins.RICH,
                x -> x.who(0, 0, a[0], a[1], a[2]), Due.PLACE);
        }
        for (int[] a : within()) {
            due.that("who(0, 0, " + a[0] + ", " + a[1] + ", " + a[2] + ") is told",
                Twins.made(Twins.RICH).who(0, 0, a[0], a[1], a[2]) >= 0);
        }
    }

    private static void whoFindsTheFirst() {
        due.promise(31);
        twins.refuses("NULL ahead of PLACE: who(0, 0, 7, -1, 1)", Twins.RICH, x -> x.who(0, 0, 7, -1, 1), Due.NULL);
        twins.refuses("NULL ahead of PLACE: who(0, 0, 4, most, 12)", Twins.RICH, x -> x.who(0, 0, 4, MOST_INT, 12), Due.NULL);
        twins.refuses("BAD ahead of PLACE: who(0, 0, 0, 0, 13)", Twins.RICH, x -> x.who(0, 0, 0, 0, 13), Due.BAD);
        twins.refuses("BAD ahead of PLACE: who(0, 0, 0, -1, 0)", Twins.RICH, x -> x.who(0, 0, 0, -1, 0), Due.BAD);
    }

    /** Without hay all stay where they are, dead or not. */
    private static Twins.Past rowOf(int lane, int... items) {
        return x -> {
            Due.tell(x, "c7,0;r0,1,9;p0,9,0;m6,1,0;");
            x.row(0, lane, items.length);
            for (int i = 0; i < items.length; i++) {
                x.set(0, i, items[i]);
            }
        };
    }

    private static void whoOfNoneAndOfAll() {
        due.promise(31);
        Twins.Past noughts = rowOf(2, 0, 0, 0, 0, 0, 0, 0, 0, 0, 0, 0, 0);
        twins.tellsOfRow("all kinds", noughts, x -> x.who(0, 0, 0, 0, 12), 62);
        twins.tellsOfRow("all sizes, 1 to 9", noughts, x -> x.who(0, 1, 0, 0, 12), 1022);
        twins.tellsOfRow("one place", noughts, x -> x.who(0, 2, 0, 0, 12), 1);
        twins.tellsOfRow("no kind", noughts, x -> x.who(1, 0, 0, 0, 1), 0);
        twins.tellsOfRow("no size", noughts, x -> x.who(1, 1, 0, 0, 1), 0);
        twins.tellsOfRow("it began elsewhere", noughts, x -> x.who(1, 2, 0, 0, 1), 1);
        twins.tellsOfRow("the last parish", rowOf(0, 6), x -> x.who(0, 2, 0, 0, 1), 64);
        int[] nowhere = {7, -1, 100, LEAST_INT, MOST_INT};
        for (int place : nowhere) {
            twins.tellsOfRow("no place is " + place, rowOf(2, place), x -> x.who(0, 2, 0, 0, 1), 0);
            twins.tellsOfRow("no kind by " + place, rowOf(2, place), x -> x.who(0, 0, 0, 0, 1), 0);
            twins.tellsOfRow("no size by " + place, rowOf(2, place), x -> x.who(0, 1, 0, 0, 1), 0);
        }
        twins.tellsOfRow("all but the last year", rowOf(1, 0, 0, 0, 0, 0, 0, 0, 0, 0, 0, 0, 1), x -> x.who(0, 0, 0, 0, 12), 0);
        twins.tellsOfRow("so until then", rowOf(1, 0, 0, 0, 0, 0, 0, 0, 0, 0, 0, 0, 1), x -> x.who(0, 0, 0, 0, 11), 62);
    }

    /** Each size, each kind at 5, on either side of every grid. */
    private static void whoBySizesThatCross() {
        due.promise(31);
        for (int grid = 0; grid <= 9; grid++) {
            int cross = 0;
            for (int size = grid + 1; size <= 9; size++) {
                cross |= 1 << size;
            }
            int thin = 0;
            for (int size = Math.max(1, grid - 2); size <= 9; size++) {
                thin |= 1 << size;
            }
            int[] goes = {cross, thin, grid == 0 ? 1022 : 0, cross, cross};
            for (int kind = 0; kind < 5; kind++) {
                GridQuarrels x = Due.told("c2,0;r0,1," + grid + ";" + "ptkbm".charAt(kind) + "0,5,0;");
                x.hay(1, 1);
                Due.fill(x, 0, 1, 0);
                due.is("sizes that go by " + grid, x.who(0, 1, 0, 0, 1), goes[kind]);
                due.is("sizes that stay by " + grid, x.who(0, 1, 0, 1, 1), 1022 - goes[kind]);
                int kinds = (grid < 5 ? 2 | 16 | 32 : 0) | (grid < 8 ? 4 : 0) | (grid == 0 ? 8 : 0);
                due.is("kinds that go by " + grid, x.who(0, 0, 0, 0, 1), kinds);
                due.is("kinds that stay by " + grid, x.who(0, 0, 0, 1, 1), 62 - kinds);
            }
        }
    }

    /** From 0 it goes to 1, where 2 lie; from 2 to 3, where 3 lie; from all others it stays. */
    private static void whoByWhereItBegan() {
        due.promise(31);
        GridQuarrels x = Due.told("c7,0;r0,1,0;r3,2,0;p6,9,0;");
        x.hay(1, 2);
        x.hay(3, 3);
        Due.fill(x, 0, 0, 1, 2, 3, 4, 5, 6);
        int[] began = {0, 3, 0, 12, 16, 32, 64};
        for (int p = 0; p < 7; p++) {
            due.is("it began, behind a year in " + p, x.who(0, 2, 0, p, 1), began[p]);
        }
        due.is("it is where it was", x.quarrel(0, 0), 6);
    }

    private static void gridsNumbers() {
        due.promise(32);
        new Bounds(due, "grids", LEAST, (x, n) -> x.grids(n[0], n[1], n[2], n[3], n[4]), 0, 0, 0, 0, 1)
            .number(0, 0, 0).number(1, 0, 0).number(2, 0, 7).number(4, 1, 12);
        new Bounds(due, "grids", Twins.RICH, (x, n) -> x.grids(n[0], n[1], n[2], n[3], n[4]), 0, 0, 2, 0, 1)
            .number(0, 0, 6).number(1, 0, 4).number(2, 0, 7).number(4, 1, 12);
        new Bounds(due, "grids", Twins.BRIM, (x, n) -> x.grids(n[0], n[1], n[2], n[3], n[4]), 0, 0, 0, 0, 1)
            .number(0, 0, 0).number(1, 0, 1).number(2, 0, 7).number(4, 1, 12);
    }

    /** It is not said to be refused: a dead one is where it was. */
    private static void gridsOfTheDead() {
        due.promise(32);
        twins.tellsOfRow("it was in 3: item 3 of row 0", Twins.RICH, x -> x.grids(0, 3, 0, 3, 1), 1023);
        twins.tellsOfRow("not in 4: item 4 of row 0", Twins.RICH, x -> x.grids(0, 3, 0, 4, 1), 0);
        twins.refuses("grids(0, 3, 7, 0, 1)", Twins.RICH, x -> x.grids(0, 3, 7, 0, 1), Due.NULL);
    }

    private static void gridsOfAMissingRow() {
        due.promise(32);
        twins.refuses("grids(0, 0, 4, 0, 1)", Twins.RICH, x -> x.grids(0, 0, 4, 0, 1), Due.NULL);
        twins.refuses("grids(6, 4, 7, 0, 12)", Twins.RICH, x -> x.grids(6, 4, 7, 0, 12), Due.NULL);
        twins.refuses("NULL ahead of PLACE: grids(0, 0, 7, -1, 1)", Twins.RICH, x -> x.grids(0, 0, 7, -1, 1), Due.NULL);
        twins.refuses("BAD ahead of NULL: grids(7, 0, 7, 0, 1)", Twins.RICH, x -> x.grids(7, 0, 7, 0, 1), Due.BAD);
        twins.refuses("BAD ahead of NULL: grids(0, 5, 7, 0, 1)", Twins.RICH, x -> x.grids(0, 5, 7, 0, 1), Due.BAD);
        twins.refuses("BAD ahead of NULL: grids(0, 0, 7, 0, 0)", Twins.RICH, x -> x.grids(0, 0, 7, 0, 0), Due.BAD);
        twins.refuses("BAD ahead of PLACE: grids(0, 0, 0, 0, 13)", Twins.RICH, x -> x.grids(0, 0, 0, 0, 13), Due.BAD);
    }

    private static void gridsBeyondARow() {
        due.promise(32);
        for (int[] a : beyond()) {
            twins.refuses("grids(0, 0, " + a[0] + ", " + a[1] + ", " + a[2] + ")", Twins.RICH,
                x -> x.grids(0, 0, a[0], a[1], a[2]), Due.PLACE);
        }
        for (int[] a : within()) {
            due.that("grids(0, 0, " + a[0] + ", " + a[1] + ", " + a[2] + ") is told",
                Twins.made(Twins.RICH).grids(0, 0, a[0], a[1], a[2]) >= 0);
        }
    }

    /** A plain one that is s big goes by grids below s, and stays by the others. */
    private static void gridsOfNoneAndOfAll() {
        due.promise(32);
        for (int size = 1; size <= 9; size++) {
            GridQuarrels x = Due.told("c3,0;r0,1,5;r1,2,5;p0," + size + ",0;");
            x.hay(1, 1);
            Due.fill(x, 0, 1, 0, 2, -1);
            int goes = (1 << size) - 1;
            due.is("it goes", x.grids(0, 0, 0, 0, 1), goes);
            due.is("it stays", x.grids(0, 0, 0, 1, 1), 1023 - goes);
            due.is("it is not there", x.grids(0, 0, 0, 2, 1), 0);
            due.is("it is nowhere", x.grids(0, 0, 0, 3, 1), 0);
            due.is("another road, all or none", x.grids(1, 0, 0, 0, 1), size > 5 ? 1023 : 0);
        }
        GridQuarrels x = Due.told("c2,0;r0,1,9;t0,6,0;k0,9,0;");
        x.hay(1, 2);
        Due.fill(x, 0, 1);
        due.is("a thin one of 6 goes by 0 to 8", x.grids(0, 0, 0, 0, 1), 511);
        x.grow(0, 7);
        due.is("a thin one of 7 goes by all", x.grids(0, 0, 0, 0, 1), 1023);
        due.is("a calf by 0 alone", x.grids(0, 1, 0, 0, 1), 1);
    }

    private static void whichNumbers() {
        due.promise(33);
        for (Twins.Past past : new Twins.Past[] {LEAST, Twins.RICH, Twins.BRIM}) {
            new Bounds(due, "which", past, (x, n) -> x.which(n[0], n[1], n[2]), 2, 0, 1).number(0, 0, 7).number(2, 1, 12);
        }
    }

    private static void whichWithoutACounty() {
        due.promise(33);
        int[] numbers = {LEAST_INT, -1, 0, 1, 7, 8, 12, 13, MOST_INT};
        for (int n : numbers) {
            twins.refuses("no county: which(" + n + ", 0, 1)", Twins.UNTOLD, x -> x.which(n, 0, 1), Due.STATE);
            twins.refuses("no county: which(0, " + n + ", 1)", Twins.UNTOLD, x -> x.which(0, n, 1), Due.STATE);
            twins.refuses("no county: which(0, 0, " + n + ")", Twins.UNTOLD, x -> x.which(0, 0, n), Due.STATE);
            twins.refuses("no county: which(" + n + ", 0, " + n + ")", Twins.BARE, x -> x.which(n, 0, n), Due.STATE);
        }
    }

    private static void whichOfAMissingRow() {
        due.promise(33);
        twins.refuses("which(4, 0, 1)", Twins.RICH, x -> x.which(4, 0, 1), Due.NULL);
        twins.refuses("which(7, 0, 12)", Twins.RICH, x -> x.which(7, 0, 12), Due.NULL);
        twins.refuses("NULL ahead of PLACE: which(7, -1, 1)", Twins.RICH, x -> x.which(7, -1, 1), Due.NULL);
        twins.refuses("BAD ahead of NULL: which(7, 0, 13)", Twins.RICH, x -> x.which(7, 0, 13), Due.BAD);
        twins.refuses("BAD ahead of NULL: which(7, 0, 0)", Twins.RICH, x -> x.which(7, 0, 0), Due.BAD);
        twins.refuses("BAD ahead of PLACE: which(0, 0, 13)", Twins.RICH, x -> x.which(0, 0, 13), Due.BAD);
    }

    private static void whichBeyondARow() {
        due.promise(33);
        for (int[] a : beyond()) {
            twins.refuses("which(" + a[0] + ", " + a[1] + ", " + a[2] + ")", Twins.RICH, x -> x.which(a[0], a[1], a[2]), Due.PLACE);
        }
        for (int[] a : within()) {
            due.that("which(" + a[0] + ", " + a[1] + ", " + a[2] + ") is told", Twins.made(Twins.RICH).which(a[0], a[1], a[2]) >= 0);
        }
    }

    private static void whichOfNoneAndOfAll() {
        due.promise(33);
        GridQuarrels x = Due.told("c7,0;r0,1,9;m6,1,0;p6,9,0;t6,9,0;k6,9,0;b6,9,0;");
        Due.fill(x, 1, 6, 6, 6, 6, 6, 6, 6, 6, 6, 6, 6, 6, 0);
        due.is("all", x.which(1, 0, 12), 31);
        due.is("none, as the last is not so", x.which(1, 1, 12), 0);
        due.is("all, without the last", x.which(1, 1, 11), 31);
        due.is("none", x.which(1, 12, 1), 0);
        int[] nowhere = {7, -1, LEAST_INT, MOST_INT};
        for (int place : nowhere) {
            x.set(1, 0, place);
            due.is("none is in " + place, x.which(1, 0, 1), 0);
        }
    }

    /** 262 is 6 as a byte, 65542 is 6 as a short. */
    private static void whichInEveryLane() {
        due.promise(33);
        twins.tellsOfRow("a byte", rowOf(0, 262), x -> x.which(0, 0, 1), 2);
        twins.tellsOfRow("a short, not cut", rowOf(1, 262), x -> x.which(0, 0, 1), 0);
        twins.tellsOfRow("a short", rowOf(1, 65542), x -> x.which(0, 0, 1), 2);
        twins.tellsOfRow("an int, not cut", rowOf(2, 65542), x -> x.which(0, 0, 1), 0);
        twins.tellsOfRow("an int", rowOf(2, 6), x -> x.which(0, 0, 1), 2);
    }

    /** A bull that eats 11 years in 0, and is in 1 behind the twelfth. */
    private static void twelveYearsAtMost() {
        due.promise(33);
        GridQuarrels x = Due.told("c2,9;r0,1,0;b0,5,0;");
        x.hay(0, 2);
        Due.fill(x, 0, 0, 0, 0, 0, 0, 0, 0, 0, 0, 0, 0, 1, 1);
        due.is("12 years", x.which(0, 0, 12), 1);
        due.is("11 years", x.which(0, 0, 11), 1);
        due.is("12 years from the second on", x.which(0, 1, 12), 0);
        due.is("13 years", x.which(0, 0, 13), Due.BAD);
        due.promise(31);
        due.is("12 years by kinds", x.who(0, 0, 0, 0, 12), 32 | 16);
        due.promise(32);
        due.is("12 years by grids", x.grids(0, 0, 0, 0, 12), 511);
    }

    private static void snowNumbers() {
        due.promise(34);
        new Bounds(due, "snow", LEAST, (x, n) -> x.snow(n[0], n[1], n[2], n[3], n[4]), 0, 0, 1, 5, 0)
            .number(0, 0, 0).number(1, 0, 1).number(2, 0, 30).number(3, 0, 10).number(4, 0, 1);
        new Bounds(due, "snow", Twins.RICH, (x, n) -> x.snow(n[0], n[1], n[2], n[3], n[4]), 0, 0, 1, 5, 0)
            .number(0, 0, 4).number(1, 0, 6).number(2, 0, 30).number(3, 0, 10).number(4, 0, 1);
        new Bounds(due, "snow", Twins.BRIM, (x, n) -> x.snow(n[0], n[1], n[2], n[3], n[4]), 0, 0, 1, 5, 0)
            .number(0, 0, 1).number(1, 0, 1).number(2, 0, 30).number(3, 0, 10).number(4, 0, 1);
    }

    private static void fraction(String what, Twins.Past past, int[] call, long above, long below) {
        twins.tells(what + ", above", past, x -> x.snow(call[0], call[1], call[2], call[3], 0), above);
        twins.tells(what + ", below", past, x -> x.snow(call[0], call[1], call[2], call[3], 1), below);
    }

    /** From 0 to 6 by six grids of 9, where more lies in each: it comes there behind 6 years if all are filled. */
    private static final Twins.Past CHAIN = x -> {
        Due.tell(x, "c7,0;r0,1,9;r1,2,9;r2,3,9;r3,4,9;r4,5,9;r5,6,9;r1,0,9;p0,1,0;");
        for (int p = 1; p <= 6; p++) {
            x.hay(p, p);
        }
    };

    private static void snowOfNoGridAndOfAll() {
        due.promise(34);
        fraction("no snow", CHAIN, new int[] {0, 6, 6, 0}, 0, 1);
        fraction("snow on all", CHAIN, new int[] {0, 6, 6, 10}, 1, 1);
        Twins.Past calf = x -> {
            Due.tell(x, "c2,0;r0,1,1;k0,9,0;");
            x.hay(1, 1);
        };
        fraction("a grid that is filled is 0, which a calf crosses", calf, new int[] {0, 1, 1, 10}, 1, 1);
        fraction("a grid of 1 is filled, too", calf, new int[] {0, 1, 1, 1}, 1, 10);
        fraction("no grid above 0", LEAST, new int[] {0, 0, 30, 5}, 1, 1);
        fraction("no grid above 0, elsewhere", LEAST, new int[] {0, 1, 30, 5}, 0, 1);
        long tens = 1;
        for (int roads = 1; roads <= 7; roads++) {
            tens *= 10;
            GridQuarrels x = Due.told("c2,0;" + "r0,1,9;".repeat(roads) + "p0,9,0;");
            x.hay(1, 1);
            due.is("by one of " + roads + ", above", x.snow(0, 1, 1, 1, 0), tens - (long) Math.pow(9, roads));
            due.is("by one of " + roads + ", below", x.snow(0, 1, 1, 1, 1), tens);
            due.is("by none of " + roads + ", above", x.snow(0, 0, 1, 1, 0), (long) Math.pow(9, roads));
            due.is("by none of " + roads + ", below", x.snow(0, 0, 1, 1, 1), tens);
        }
    }

    private static void snowOfNoYearAndOfThirty() {
        due.promise(34);
        fraction("where it is now", CHAIN, new int[] {0, 0, 0, 3}, 1, 1);
        fraction("where it is not now", CHAIN, new int[] {0, 1, 0, 3}, 0, 1);
        Twins.Past late = x -> {
            Due.tell(x, "c2,9;r0,1,9;b0,9,0;");
            x.hay(0, 9);
            x.hay(0, 9);
            x.hay(0, 3);
        };
        fraction("it eats yet in 0 behind 30", late, new int[] {0, 0, 30, 10}, 1, 1);
        Twins.Past soon = x -> {
            Due.tell(x, "c2,9;r0,1,9;b0,9,0;");
            x.hay(0, 9);
            x.hay(0, 9);
            x.hay(0, 2);
            x.hay(1, 9);
        };
        fraction("behind 29 it is in 0", soon, new int[] {0, 1, 29, 3}, 0, 1);
        fraction("behind 30 it has gone", soon, new int[] {0, 1, 30, 3}, 3, 10);
        fraction("behind 30 it has not", soon, new int[] {0, 0, 30, 3}, 7, 10);
    }

    private static void snowInLowestTerms() {
        due.promise(34);
        fraction("by 1", CHAIN, new int[] {0, 6, 6, 1}, 19, 10000000);
        fraction("by 3", CHAIN, new int[] {0, 6, 6, 3}, 12393, 10000000);
        fraction("by 5", CHAIN, new int[] {0, 6, 6, 5}, 3, 128);
        fraction("by 9", CHAIN, new int[] {0, 6, 6, 9}, 99 * 59049, 10000000);
        long above = 96L * 32768;
        long common = BigInteger.valueOf(above).gcd(BigInteger.valueOf(10000000)).longValue();
        fraction("by 8", CHAIN, new int[] {0, 6, 6, 8}, above / common, 10000000 / common);
        for (int p = 0; p <= 10; p++) {
            int common2 = BigInteger.valueOf(p).gcd(BigInteger.TEN).intValue();
            GridQuarrels x = Due.told("c2,0;r0,1,9;p0,9,0;");
            x.hay(1, 1);
            due.is("by " + p + ", above", x.snow(0, 1, 1, p, 0), p / common2);
            due.is("by " + p + ", below", x.snow(0, 1, 1, p, 1), 10 / common2);
        }
    }

    private static void snowOfTheDead() {
        due.promise(34);
        fraction("where it was", Twins.RICH, new int[] {3, 3, 0, 5}, 0, 1);
        fraction("where it was, later", Twins.RICH, new int[] {3, 3, 30, 10}, 0, 1);
        fraction("elsewhere", Twins.RICH, new int[] {3, 0, 30, 5}, 0, 1);
        GridQuarrels x = Due.told("c2,0;r0,1,9;p0,1,0;");
        x.hay(1, 9);
        due.is("it dies in 0 unless it goes", x.snow(0, 0, 1, 3, 0), 0);
        due.is("it lives in 1 if it goes", x.snow(0, 1, 1, 3, 0), 3);
    }

    private static void drawnNumbers() {
        due.promise(35);
        for (Twins.Past past : new Twins.Past[] {LEAST, Twins.RICH, Twins.BRIM}) {
            new Bounds(due, "drawn", past, (x, n) -> x.drawn(n[0], n[1], n[2]), 1, 1, 0)
                .number(0, 0, 60).number(1, 1, 999999).number(2, 0, 1);
        }
    }

    private static void drawnWithoutACounty() {
        due.promise(35);
        int[] numbers = {LEAST_INT, -1, 0, 1, 2, 60, 61, 999999, 1000000, MOST_INT};
        for (int n : numbers) {
            twins.refuses("no county: drawn(" + n + ", 1, 0)", Twins.BARE, x -> x.drawn(n, 1, 0), Due.STATE);
            twins.refuses("no county: drawn(1, " + n + ", 0)", Twins.UNTOLD, x -> x.drawn(1, n, 0), Due.STATE);
            twins.refuses("no county: drawn(1, 1, " + n + ")", Twins.UNTOLD, x -> x.drawn(1, 1, n), Due.STATE);
        }
    }

    private static void drawnOfNoYear() {
        due.promise(35);
        int[] seeds = {1, 6, 999999};
        for (int seed : seeds) {
            twins.tells("drawn(0, " + seed + ", 0): as many as now", Twins.RICH, x -> x.drawn(0, seed, 0), 4);
            twins.tells("drawn(0, " + seed + ", 1): none went", Twins.RICH, x -> x.drawn(0, seed, 1), 0);
        }
    }

    /** All five stand where no road is: each by itself eats what is drawn for it. X is larger than an int holds. */
    private static void drawnOfSixtyYears() {
        due.promise(35);
        int[] seeds = {1, 2, 3, 16807, 127773, 500000, 999998, 999999};
        for (int parishes = 6; parishes <= 7; parishes++) {
            for (int size = 1; size <= 9; size += 4) {
                GridQuarrels x = Due.told("c" + parishes + ",1;r5,0,9;p1," + size + ",0;b2," + size + ",0;t3," + size + ",0;p4," + size + ",0;");
                for (int seed : seeds) {
                    for (int n = 0; n <= 60; n += 10) {
                        due.is("drawn(" + n + ", " + seed + ", 0) of " + parishes, x.drawn(n, seed, 0), left(parishes, size, n, seed));
                        due.is("none went", x.drawn(n, seed, 1), 0);
                    }
                }
            }
        }
        twins.tells("60 years in YEAR 999", Twins.BRIM, x -> x.drawn(60, 999999, 0), 1);
    }

    private static int left(int parishes, int size, int n, int seed) {
        BigInteger drawn = BigInteger.valueOf(seed);
        int[] hay = {1, 1, 1, 1, 1, 1, 1};
        int[] sizes = {0, size, size, size, size, 0, 0};
        for (int year = 0; year < n; year++) {
            drawn = drawn.multiply(BigInteger.valueOf(16807)).mod(BigInteger.valueOf(2147483647));
            int parish = drawn.mod(BigInteger.valueOf(parishes)).intValue();
            hay[parish] = Math.min(99, hay[parish] + drawn.mod(BigInteger.valueOf(5)).intValue());
            for (int q = 1; q <= 4; q++) {
                if (sizes[q] > 0 && hay[q] > 0) {
                    hay[q]--;
                    sizes[q] = Math.min(9, sizes[q] + 1);
                } else if (sizes[q] > 0) {
                    sizes[q]--;
                }
            }
        }
        int left = 0;
        for (int q = 1; q <= 4; q++) {
            left += sizes[q] > 0 ? 1 : 0;
        }
        return left;
    }

    /** By the seed 1 the first X is 16807: 2 hay for parish 1 of 2. */
    private static void drawnHayAtMost() {
        due.promise(35);
        GridQuarrels x = Due.told("c2,9;r0,1,0;p0,9,0;");
        for (int n = 0; n < 20; n++) {
            x.hay(n % 2, 9);
        }
        due.is("99 in 0", x.parish(0, 0), 99);
        due.is("99 in 1", x.parish(1, 0), 99);
        due.is("99 is no more than 99", x.drawn(1, 1, 1), 0);
        x = Due.told("c2,0;r0,1,0;p0,9,0;");
        for (int n = 0; n < 98; n += 7) {
            x.hay(0, 7);
            x.hay(1, 7);
        }
        due.is("98 in both", x.count(5), 196);
        due.is("99 is more than 98", x.drawn(1, 1, 1), 1);
    }

    /** By the seed 1 the seventh X, 101027544, is the first that 6 divides: the grid of road X by 2 = 0. */
    private static void drawnFromThenOn() {
        due.promise(35);
        Twins.Past calf = x -> {
            Due.tell(x, "c3,0;r0,1,9;r1,2,9;k0,9,0;");
            x.hay(1, 9);
        };
        for (int n = 0; n <= 7; n++) {
            int years = n;
            twins.tells("how often, behind " + n, calf, x -> x.drawn(years, 1, 1), n < 7 ? 0 : 1);
        }
        GridQuarrels x = Due.told("c3,0;r1,2,9;r0,1,9;k0,9,0;");
        x.hay(1, 9);
        due.is("the other road is not filled", x.drawn(7, 1, 1), 0);
    }
}
