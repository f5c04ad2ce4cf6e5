import java.util.ArrayDeque;
import java.util.Deque;

/** The boundary cases of promises 9, 11 to 17, 36, 37 and 42: one test for each sentence. */
public final class EdgesActsTest {
    private static final Due due = new Due();
    private static final Twins twins = new Twins(due);
    /** As little as a county can have. */
    private static final Twins.Past LEAST = x -> Due.tell(x, "c2,0;r0,1,0;m0,1,0;");
    private static final Twins.Past[] TOLD = {LEAST, Twins.RICH, Twins.BRIM};

    public static void main(String[] args) {
        undoOfNone();
        undoOfTwentyFourAtMost();
        undoTheLatestFirst();
        undoOfEachAct();
        undoOfADeath();
        whatIsRefusedIsNoAct();

        hayNumbers();
        hayAtMost();
        gridNumbers();
        gridTellsWhatItWas();
        driveNumbers();
        driveOfADeadOne();
        driveAlongARoadFromElsewhere();
        driveIsBadAheadOfState();
        driveWhateverTheGrid();
        growNumbers();
        growOfADeadOne();
        growIsBadAheadOfState();

        quarrelNumbers();
        quarrelThatIsDead();
        quarrelThatIsFirst();
        roadNumbers();
        parishNumbers();
        parishOfNoneAndOfAll();

        imageNumbers();
        imageWithoutACounty();
        imageInPlaceOfAnother();
        restoreNumbers();
        restoreOfNone();
        restoreIsAsItWasKept();
        restoreOfAFullCounty();

        countNumbers();
        countOfNone();
        countOfAll();
        due.end();
    }

    private static void undoOfNone() {
        due.promise(9);
        twins.refuses("undo() of a new object", Twins.BARE, x -> x.undo(), Due.STATE);
        twins.refuses("undo() without a county", Twins.UNTOLD, x -> x.undo(), Due.STATE);
        twins.refuses("undo() of a county without acts", LEAST, x -> x.undo(), Due.STATE);
        twins.refuses("undo() behind another county", x -> {
            Twins.RICH.of(x);
            x.county();
        }, x -> x.undo(), Due.STATE);
        twins.refuses("undo() behind restore(0)", x -> {
            Twins.RICH.of(x);
            x.restore(0);
        }, x -> x.undo(), Due.STATE);
        twins.refuses("undo() of all, and one more", x -> {
            Twins.RICH.of(x);
            for (int n = 7; n >= 0; n--) {
                due.is("undo()", x.undo(), n);
            }
        }, x -> x.undo(), Due.STATE);
    }

    /** Grids tell the acts apart: act n makes it n by 10. */
    private static void undoOfTwentyFourAtMost() {
        due.promise(9);
        int[] acts = {1, 2, 23, 24, 25, 47, 48, 49, 71, 72, 73, 150};
        for (int all : acts) {
            GridQuarrels x = Twins.made(LEAST);
            for (int n = 1; n <= all; n++) {
                x.grid(0, n % 10);
                due.is("kept of " + n, x.count(6), Math.min(24, n));
            }
            int kept = Math.min(24, all);
            for (int n = 1; n <= kept; n++) {
                due.is("undo() number " + n + " of " + all, x.undo(), kept - n);
                due.is("the grid as it was", x.road(0, 2), (all - n) % 10);
            }
            due.is("undo() once more", x.undo(), Due.STATE);
            due.is("the grid stays", x.road(0, 2), (all - kept) % 10);
        }
    }

    /** Acts and undoing in turns, past the end of what is kept. */
    private static void undoTheLatestFirst() {
        due.promise(9);
        GridQuarrels x = Twins.made(LEAST);
        Deque<Integer> were = new ArrayDeque<>();
        int[] turns = {20, -5, 12, -20, 3, -10, 30, -24, 5, -6, 25, -3, 3, -25};
        int act = 0;
        for (int turn : turns) {
            for (int n = 0; n < turn; n++) {
                act++;
                were.addLast(x.road(0, 2));
                if (were.size() > 24) {
                    were.removeFirst();
                }
                x.grid(0, act * 7 % 10);
            }
            for (int n = 0; n < -turn; n++) {
                if (were.isEmpty()) {
                    due.is("undo() of none", x.undo(), Due.STATE);
                } else {
                    int was = were.removeLast();
                    due.is("undo()", x.undo(), were.size());
                    due.is("the grid as it was", x.road(0, 2), was);
                }
            }
        }
    }

    private static void undoOfEachAct() {
        due.promise(9);
        isUndone("a year", x -> x.years(1));
        isUndone("hay", x -> x.hay(6, 9));
        isUndone("a grid", x -> x.grid(6, 9));
        isUndone("a grid as it was", x -> x.grid(0, x.road(0, 2)));
        isUndone("a drive", x -> x.drive(1, 0));
        isUndone("a size", x -> x.grow(4, 9));
    }

    private static void isUndone(String what, Twins.Call act) {
        twins.alike(what + " is undone", x -> {
            Twins.RICH.of(x);
            act.on(x);
            due.is(what + " is an act", x.count(6), 9);
            due.is(what + " is undone", x.undo(), 8);
        }, Twins.RICH);
    }

    private static void undoOfADeath() {
        due.promise(9);
        GridQuarrels x = Due.told("c2,0;r0,1,0;p0,1,0;t1,1,0;");
        due.is("both die", x.years(1), 0);
        due.is("undone", x.undo(), 0);
        due.is("0 is not dead", x.quarrel(0, 1), 1);
        due.is("1 is not dead", x.quarrel(1, 1), 1);
        due.is("it can be driven", x.drive(0, 0), 1);
    }

    private static void whatIsRefusedIsNoAct() {
        due.promise(9);
        GridQuarrels x = Twins.made(Twins.RICH);
        x.years(0);
        x.years(25);
        x.hay(7, 1);
        x.hay(0, 10);
        x.grid(7, 0);
        x.grid(0, 10);
        x.drive(3, 2);
        x.drive(0, 0);
        x.drive(0, 7);
        x.grow(3, 1);
        x.grow(0, 0);
        x.image(2);
        x.restore(1);
        due.is("as many acts as ahead", x.count(6), 8);
        due.is("YEAR as ahead", x.count(4), 3);
    }

    private static void hayNumbers() {
        due.promise(11);
        new Bounds(due, "hay", LEAST, (x, n) -> x.hay(n[0], n[1]), 0, 1).number(0, 0, 1).number(1, 1, 9);
        new Bounds(due, "hay", Twins.RICH, (x, n) -> x.hay(n[0], n[1]), 0, 1).number(0, 0, 6).number(1, 1, 9);
        new Bounds(due, "hay", Twins.BRIM, (x, n) -> x.hay(n[0], n[1]), 0, 1).number(0, 0, 1).number(1, 1, 9);
        for (int n = 1; n <= 9; n++) {
            due.is("hay(1, " + n + ")", Twins.made(LEAST).hay(1, n), n);
        }
    }

    private static void hayAtMost() {
        due.promise(11);
        for (int before = 88; before <= 99; before++) {
            for (int n = 1; n <= 9; n++) {
                GridQuarrels x = Twins.made(LEAST);
                for (int left = before; left > 0; left -= 9) {
                    x.hay(1, Math.min(9, left));
                }
                int acts = x.count(6);
                due.is(n + " to " + before, x.hay(1, n), Math.min(99, before + n));
                due.is("it lies there", x.parish(1, 0), Math.min(99, before + n));
                due.is("none lies elsewhere", x.parish(0, 0), 0);
                due.is("an act", x.count(6), acts + 1);
                due.is("undone", x.undo(), acts);
                due.is("as it was", x.parish(1, 0), before);
            }
        }
    }

    private static void gridNumbers() {
        due.promise(12);
        new Bounds(due, "grid", LEAST, (x, n) -> x.grid(n[0], n[1]), 0, 1).number(0, 0, 0).number(1, 0, 9);
        new Bounds(due, "grid", Twins.RICH, (x, n) -> x.grid(n[0], n[1]), 0, 1).number(0, 0, 6).number(1, 0, 9);
        new Bounds(due, "grid", Twins.BRIM, (x, n) -> x.grid(n[0], n[1]), 0, 1).number(0, 0, 0).number(1, 0, 9);
        twins.refuses("grid(0, 12), though 12 shuts", Twins.RICH, x -> x.grid(0, 12), Due.BAD);
    }

    private static void gridTellsWhatItWas() {
        due.promise(12);
        for (int was = 0; was <= 9; was++) {
            for (int n = 0; n <= 9; n++) {
                GridQuarrels x = Due.told("c2,0;r0,1," + was + ";m0,1,0;");
                due.is("grid(0, " + n + ")", x.grid(0, n), was);
                due.is("it is so", x.road(0, 2), n);
            }
        }
    }

    private static void driveNumbers() {
        due.promise(13);
        new Bounds(due, "drive", LEAST, (x, n) -> x.drive(n[0], n[1]), 0, 0).number(0, 0, 0).number(1, 0, 0);
        new Bounds(due, "drive", Twins.RICH, (x, n) -> x.drive(n[0], n[1]), 0, 6).number(0, 0, 4).number(1, 0, 6);
        due.is("drive(0, 6)", Twins.made(Twins.RICH).drive(0, 6), 0);
        due.is("drive(0, 5)", Twins.made(Twins.RICH).drive(0, 5), 5);
        due.is("drive(1, 0)", Twins.made(Twins.RICH).drive(1, 0), 0);
        due.is("drive(4, 4)", Twins.made(Twins.RICH).drive(4, 4), 5);
    }

    private static void driveOfADeadOne() {
        due.promise(13);
        twins.refuses("drive(3, 2) of a dead one", Twins.RICH, x -> x.drive(3, 2), Due.STATE);
        twins.refuses("drive(3, 3) of a dead one", Twins.RICH, x -> x.drive(3, 3), Due.STATE);
        twins.refuses("drive(3, 0) of a dead one, from elsewhere", Twins.RICH, x -> x.drive(3, 0), Due.STATE);
        twins.refuses("drive(1, 0) of a dead one", Twins.BRIM, x -> x.drive(1, 0), Due.STATE);
        GridQuarrels x = Due.told("c2,0;r0,1,9;p0,2,0;");
        x.years(1);
        due.is("drive(0, 0) of one that is 1", x.drive(0, 0), 1);
        x.years(1);
        due.is("drive(0, 0) of one that is 0", x.drive(0, 0), Due.STATE);
    }

    /** Quarrel 0 is in 6, where roads 5 and 6 are. */
    private static void driveAlongARoadFromElsewhere() {
        due.promise(13);
        for (int road = 0; road <= 4; road++) {
            int r = road;
            twins.refuses("drive(0, " + r + ") from elsewhere", Twins.RICH, x -> x.drive(0, r), Due.STATE);
        }
        twins.refuses("drive(1, 6) from elsewhere", Twins.RICH, x -> x.drive(1, 6), Due.STATE);
    }

    private static void driveIsBadAheadOfState() {
        due.promise(13);
        twins.refuses("drive(3, 7) of a dead one", Twins.RICH, x -> x.drive(3, 7), Due.BAD);
        twins.refuses("drive(3, -1) of a dead one", Twins.RICH, x -> x.drive(3, -1), Due.BAD);
        twins.refuses("drive(5, 0)", Twins.RICH, x -> x.drive(5, 0), Due.BAD);
        twins.refuses("drive(1, 1) of a dead one", Twins.BRIM, x -> x.drive(1, 1), Due.BAD);
    }

    private static void driveWhateverTheGrid() {
        due.promise(13);
        for (int kind = 0; kind < 5; kind++) {
            for (int grid = 0; grid <= 9; grid++) {
                String road = "r0,1," + grid + ";";
                GridQuarrels x = Due.told("c2,0;" + road + "ptkbm".charAt(kind) + "0,1,0;");
                due.is("from ONE, grid " + grid, x.drive(0, 0), 1);
                due.is("from OTHER, grid " + grid, x.drive(0, 0), 0);
                due.is("two acts", x.count(6), 2);
                due.is("the size is as it was", x.quarrel(0, 1), 1);
                due.is("the grid is as it was", x.road(0, 2), grid);
            }
        }
    }

    private static void growNumbers() {
        due.promise(14);
        new Bounds(due, "grow", LEAST, (x, n) -> x.grow(n[0], n[1]), 0, 1).number(0, 0, 0).number(1, 1, 9);
        new Bounds(due, "grow", Twins.RICH, (x, n) -> x.grow(n[0], n[1]), 0, 1).number(0, 0, 4).number(1, 1, 9);
        for (int was = 1; was <= 9; was++) {
            for (int n = 1; n <= 9; n++) {
                GridQuarrels x = Due.told("c2,0;r0,1,0;b0," + was + ",0;");
                due.is("grow(0, " + n + ")", x.grow(0, n), was);
                due.is("it is so", x.quarrel(0, 1), n);
            }
        }
    }

    private static void growOfADeadOne() {
        due.promise(14);
        for (int n = 1; n <= 9; n++) {
            int size = n;
            twins.refuses("grow(3, " + n + ") of a dead one", Twins.RICH, x -> x.grow(3, size), Due.STATE);
        }
        twins.refuses("grow(1, 1) of a dead one", Twins.BRIM, x -> x.grow(1, 1), Due.STATE);
    }

    private static void growIsBadAheadOfState() {
        due.promise(14);
        int[] sizes = {Integer.MIN_VALUE, -1, 0, 10, Integer.MAX_VALUE};
        for (int n : sizes) {
            twins.refuses("grow(3, " + n + ") of a dead one", Twins.RICH, x -> x.grow(3, n), Due.BAD);
        }
    }

    private static void quarrelNumbers() {
        due.promise(15);
        new Bounds(due, "quarrel", LEAST, (x, n) -> x.quarrel(n[0], n[1]), 0, 0).number(0, 0, 0).number(1, 0, 4);
        new Bounds(due, "quarrel", Twins.RICH, (x, n) -> x.quarrel(n[0], n[1]), 0, 0).number(0, 0, 4).number(1, 0, 4);
        new Bounds(due, "quarrel", Twins.BRIM, (x, n) -> x.quarrel(n[0], n[1]), 0, 0).number(0, 0, 1).number(1, 0, 4);
        int[][] all = {{6, 1, 1, 0, 6}, {1, 6, 1, 3, 1}, {2, 6, 3, 4, 2}, {3, 0, 4, 0, 3}, {4, 1, 4, 0, 4}};
        for (int q = 0; q < 5; q++) {
            for (int what = 0; what < 5; what++) {
                int quarrel = q, of = what;
                twins.tells("quarrel(" + q + ", " + what + ")", Twins.RICH, x -> x.quarrel(quarrel, of), all[q][what]);
            }
        }
    }

    /** No grid would hold a thin one, but it is dead. */
    private static void quarrelThatIsDead() {
        due.promise(15);
        Twins.Past dead = x -> {
            Due.tell(x, "c3,0;r0,1,0;r1,2,0;t1,1,2;");
            x.years(1);
            x.hay(0, 9);
            x.hay(2, 1);
        };
        int[] answers = {1, 0, 2, 0, 1};
        for (int what = 0; what < 5; what++) {
            int of = what;
            twins.tells("quarrel(0, " + what + ") of a dead one", dead, x -> x.quarrel(0, of), answers[what]);
        }
        GridQuarrels x = Twins.made(dead);
        for (int n = 0; n < 3; n++) {
            x.undo();
        }
        due.is("it is not dead any more", x.quarrel(0, 3), 3);
    }

    /** Quarrel 0 eats the one hay, but were 1 first, it would go there. */
    private static void quarrelThatIsFirst() {
        due.promise(15);
        GridQuarrels x = Due.told("c2,0;r0,1,0;p0,5,0;p0,5,0;");
        x.hay(1, 1);
        due.is("0 would go", x.quarrel(0, 4), 1);
        due.is("1 would go, were it first", x.quarrel(1, 4), 1);
        x.years(1);
        due.is("0 went", x.quarrel(0, 0), 1);
        due.is("1 did not", x.quarrel(1, 0), 0);
        x = Twins.made(Twins.BRIM);
        x.grid(0, 0);
        due.is("in YEAR 999, too", x.quarrel(0, 4), 1);
    }

    private static void roadNumbers() {
        due.promise(16);
        new Bounds(due, "road", LEAST, (x, n) -> x.road(n[0], n[1]), 0, 0).number(0, 0, 0).number(1, 0, 2);
        new Bounds(due, "road", Twins.RICH, (x, n) -> x.road(n[0], n[1]), 0, 0).number(0, 0, 6).number(1, 0, 2);
        int[] grids = {1, 2, 0, 7, 3, 4, 5};
        for (int r = 0; r < 7; r++) {
            int road = r;
            twins.tells("road(" + r + ", 0)", Twins.RICH, x -> x.road(road, 0), r);
            twins.tells("road(" + r + ", 1)", Twins.RICH, x -> x.road(road, 1), (r + 1) % 7);
            twins.tells("road(" + r + ", 2)", Twins.RICH, x -> x.road(road, 2), grids[r]);
        }
    }

    private static void parishNumbers() {
        due.promise(17);
        new Bounds(due, "parish", LEAST, (x, n) -> x.parish(n[0], n[1]), 0, 0).number(0, 0, 1).number(1, 0, 2);
        new Bounds(due, "parish", Twins.RICH, (x, n) -> x.parish(n[0], n[1]), 0, 0).number(0, 0, 6).number(1, 0, 2);
        int[] hay = {2, 3, 0, 0, 0, 0, 0};
        int[] quarrels = {0, 2, 4, 0, 16, 0, 1};
        int[] roads = {65, 3, 6, 12, 24, 48, 96};
        for (int p = 0; p < 7; p++) {
            int parish = p;
            twins.tells("parish(" + p + ", 0)", Twins.RICH, x -> x.parish(parish, 0), hay[p]);
            twins.tells("parish(" + p + ", 1)", Twins.RICH, x -> x.parish(parish, 1), quarrels[p]);
            twins.tells("parish(" + p + ", 2)", Twins.RICH, x -> x.parish(parish, 2), roads[p]);
        }
    }

    private static void parishOfNoneAndOfAll() {
        due.promise(17);
        GridQuarrels x = Due.told("c3,0;r0,1,0;r1,0,0;r0,1,0;r1,0,0;r0,1,0;r1,0,0;r0,1,0;m1,1,0;m1,1,0;m1,1,0;m1,1,0;p1,1,0;");
        due.is("all quarrels", x.parish(1, 1), 31);
        due.is("all roads of ONE and OTHER", x.parish(1, 2), 127);
        due.is("no quarrel", x.parish(2, 1), 0);
        due.is("no road", x.parish(2, 2), 0);
        due.is("no hay", x.parish(2, 0), 0);
        x.years(1);
        due.is("not the dead one", x.parish(1, 1), 15);
        due.is("99 hay", Twins.made(Twins.BRIM).parish(1, 0), 99);
    }

    private static void imageNumbers() {
        due.promise(36);
        for (Twins.Past past : TOLD) {
            new Bounds(due, "image", past, (x, n) -> x.image(n[0]), 0).number(0, 0, 1);
            due.is("image(0)", Twins.made(past).image(0), 1);
            due.is("image(1)", Twins.made(past).image(1), 1);
            for (int k = 0; k < 2; k++) {
                int one = k;
                twins.alikeButImages("image(" + k + ") changes nothing else", x -> {
                    past.of(x);
                    x.image(one);
                }, past);
            }
        }
    }

    private static void imageWithoutACounty() {
        due.promise(36);
        for (Twins.Past past : new Twins.Past[] {Twins.BARE, Twins.UNTOLD}) {
            twins.refuses("image(0) of no county", past, x -> x.image(0), Due.STATE);
            twins.refuses("image(1) of no county", past, x -> x.image(1), Due.STATE);
            twins.refuses("BAD ahead of STATE: image(2)", past, x -> x.image(2), Due.BAD);
            twins.refuses("BAD ahead of STATE: image(-1)", past, x -> x.image(-1), Due.BAD);
        }
    }

    private static void imageInPlaceOfAnother() {
        due.promise(36);
        GridQuarrels x = Twins.made(LEAST);
        x.image(0);
        x.image(1);
        x.hay(0, 7);
        due.is("image(0) again", x.image(0), 1);
        x.hay(0, 1);
        due.is("restore(1)", x.restore(1), 1);
        due.is("the other one is as it was", x.parish(0, 0), 0);
        due.is("restore(0)", x.restore(0), 1);
        due.is("the later one", x.parish(0, 0), 7);
    }

    private static void restoreNumbers() {
        due.promise(37);
        for (Twins.Past past : TOLD) {
            Twins.Past kept = x -> {
                past.of(x);
                x.image(0);
                x.image(1);
            };
            new Bounds(due, "restore", kept, (x, n) -> x.restore(n[0]), 0).number(0, 0, 1);
            due.is("restore(0)", Twins.made(kept).restore(0), 1);
            due.is("restore(1)", Twins.made(kept).restore(1), 1);
        }
    }

    private static void restoreOfNone() {
        due.promise(37);
        for (Twins.Past past : new Twins.Past[] {Twins.BARE, Twins.UNTOLD, LEAST}) {
            twins.refuses("restore(0) of none", past, x -> x.restore(0), Due.STATE);
            twins.refuses("restore(1) of none", past, x -> x.restore(1), Due.STATE);
            twins.refuses("BAD ahead of STATE: restore(2)", past, x -> x.restore(2), Due.BAD);
            twins.refuses("BAD ahead of STATE: restore(-1)", past, x -> x.restore(-1), Due.BAD);
        }
        twins.refuses("restore(1), only 0 was kept", Twins.RICH, x -> x.restore(1), Due.STATE);
        twins.refuses("restore(0), only 1 was kept", Twins.BRIM, x -> x.restore(0), Due.STATE);
        twins.refuses("restore(0), though image(0) was refused", x -> x.image(0), x -> x.restore(0), Due.STATE);
    }

    /** Nothing else is changed by it: rows, tape, trace, fault, status. */
    private static void restoreIsAsItWasKept() {
        due.promise(37);
        Twins.Past kept = x -> {
            Due.tell(x, Twins.WIDE);
            x.row(0, 0, 3);
            x.set(0, 3, 0);
            x.ask(1, 0);
            x.image(0);
            x.image(1);
        };
        for (int k = 0; k < 2; k++) {
            int one = k;
            twins.alike("restore(" + k + ") behind acts", x -> {
                kept.of(x);
                x.hay(0, 9);
                x.grid(0, 9);
                x.drive(0, 0);
                x.grow(1, 1);
                x.years(24);
                x.restore(one);
            }, kept);
            twins.alike("restore(" + k + ") at once", x -> {
                kept.of(x);
                x.restore(one);
            }, kept);
            twins.alike("restore(" + k + ") behind another county", x -> {
                kept.of(x);
                Due.tell(x, Twins.SMALL);
                x.years(3);
                x.restore(one);
            }, kept);
        }
    }

    private static void restoreOfAFullCounty() {
        due.promise(37);
        GridQuarrels x = Twins.made(Twins.BRIM);
        x.image(0);
        x.county();
        due.is("a county of YEAR 0", Due.tell(x, "c2,0;r0,1,9;m0,1,0;"), 1);
        due.is("restore(0)", x.restore(0), 1);
        due.is("YEAR 999", x.count(4), 999);
        due.is("99 hay", x.parish(1, 0), 99);
        due.is("no act", x.count(6), 0);
        due.is("none can be undone", x.undo(), Due.STATE);
        due.is("no year more", x.years(1), Due.FULL);
        due.is("restore(1)", x.restore(1), 1);
        due.is("YEAR 984", x.count(4), 984);
        due.is("15 years more", x.years(15), 1);
        due.is("15 acts", x.count(6), 15);
    }

    private static void countNumbers() {
        due.promise(42);
        for (Twins.Past past : new Twins.Past[] {Twins.BARE, Twins.UNTOLD, LEAST, Twins.RICH, Twins.BRIM}) {
            new Bounds(due, "count", past, (x, n) -> x.count(n[0]), 0).number(0, 0, 7);
        }
        int[] rich = {5, 7, 7, 5, 3, 5, 8, 26};
        for (int what = 0; what < 8; what++) {
            int of = what;
            twins.tells("count(" + what + ")", Twins.RICH, x -> x.count(of), rich[what]);
        }
    }

    private static void countOfNone() {
        due.promise(42);
        for (int what = 0; what < 8; what++) {
            int of = what;
            twins.tells("count(" + what + ") of a new object", Twins.BARE, x -> x.count(of), 0);
        }
    }

    private static void countOfAll() {
        due.promise(42);
        GridQuarrels x = new GridQuarrels();
        Due.tell(x, "c7,9;" + "r0,1,9;".repeat(7) + "m0,1,0;".repeat(5));
        for (int row = 0; row < 8; row++) {
            x.row(row, 0, row == 0 ? 40 : 0);
            due.is("rows", x.count(0), row + 1);
        }
        for (int n = 0; n < 41; n++) {
            x.years(24);
        }
        x.years(15);
        for (int n = 0; n < 77; n++) {
            x.hay(n % 7, 9);
        }
        Twins.feed(x, "c".repeat(120));
        int[] all = {8, 7, 7, 5, 999, 7 * 99, 24, 120};
        for (int what = 0; what < 8; what++) {
            due.is("count(" + what + ")", x.count(what), all[what]);
        }
    }
}
