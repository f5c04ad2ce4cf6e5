/** The boundary cases of promises 1 to 5 and 43, and of the first of the terms: one test for each sentence. */
public final class EdgesRowsTest {
    private static final int LEAST = Integer.MIN_VALUE, MOST = Integer.MAX_VALUE;
    private static final Due due = new Due();
    private static final Twins twins = new Twins(due);

    public static void main(String[] args) {
        rowsAreMissingAtFirst();
        noCounty();
        noCountyForetold();
        noCountyWithARow();

        rowNumbers();
        rowOfFewerThanNone();
        rowIsBadAheadOfSize();
        rowInPlaceOfWhatIsThere();
        itemsAreNoughtAtFirst();

        setOfARowThatIsNone();
        setOfAMissingRow();
        setAtThePlacesOfARow();
        setInARowOfNone();
        setKeepsTheLowestBitsOfBytes();
        setKeepsTheLowestBitsOfShorts();
        setKeepsAllBitsOfInts();

        copyOfRowsThatAreNone();
        copyOfMissingRows();
        copyOfTwoLanes();
        copyBeyondAnEnd();
        copyBelowNought();
        copyOfNumbersThatWouldWrap();
        copyOfNone();
        copyOfAll();
        copyAsTheyWereAhead();
        copyFindsTheFirst();

        dropNumbers();
        dropOfAMissingRow();
        dropTellsHowManyItHad();

        statusAtFirst();
        statusIsLeftByWhatIsRefused();
        statusIsLeftByCallsWithoutARow();
        statusOfEveryCallWithARow();
        due.end();
    }

    private static void rowsAreMissingAtFirst() {
        due.promise(1);
        for (int row = 0; row < 8; row++) {
            int r = row;
            twins.refuses("drop(" + r + ") of a new object", Twins.BARE, x -> x.drop(r), Due.NULL);
            twins.refuses("set(" + r + ", 0, 0) of a new object", Twins.BARE, x -> x.set(r, 0, 0), Due.NULL);
        }
        due.is("count(0) of a new object", new GridQuarrels().count(0), 0);
    }

    private static void noCounty() {
        due.promise(1);
        for (Twins.Past past : new Twins.Past[] {Twins.BARE, Twins.UNTOLD}) {
            for (int what = 1; what <= 6; what++) {
                int w = what;
                twins.tells("no county: count(" + w + ")", past, x -> x.count(w), 0);
            }
            twins.refuses("no county: undo()", past, x -> x.undo(), Due.STATE);
            twins.refuses("no county: years(1)", past, x -> x.years(1), Due.STATE);
            twins.refuses("no county: years(24)", past, x -> x.years(24), Due.STATE);
            twins.refuses("no county: hay(0, 1)", past, x -> x.hay(0, 1), Due.BAD);
            twins.refuses("no county: grid(0, 0)", past, x -> x.grid(0, 0), Due.BAD);
            twins.refuses("no county: drive(0, 0)", past, x -> x.drive(0, 0), Due.BAD);
            twins.refuses("no county: grow(0, 1)", past, x -> x.grow(0, 1), Due.BAD);
            twins.refuses("no county: quarrel(0, 0)", past, x -> x.quarrel(0, 0), Due.BAD);
            twins.refuses("no county: road(0, 0)", past, x -> x.road(0, 0), Due.BAD);
            twins.refuses("no county: parish(0, 0)", past, x -> x.parish(0, 0), Due.BAD);
            twins.refuses("no county: image(0)", past, x -> x.image(0), Due.STATE);
            twins.refuses("no county: image(1)", past, x -> x.image(1), Due.STATE);
            twins.refuses("no image: restore(0)", past, x -> x.restore(0), Due.STATE);
            twins.refuses("no image: restore(1)", past, x -> x.restore(1), Due.STATE);
            twins.refuses("no county: kind(0)", past, x -> x.kind(0), Due.BAD);
            twins.refuses("no county: as(0, 0)", past, x -> x.as(0, 0), Due.BAD);
            twins.refuses("no county: ask(0, 0)", past, x -> x.ask(0, 0), Due.BAD);
            twins.tells("no ask: trace(0)", past, x -> x.trace(0), Due.NONE);
        }
    }

    private static void noCountyForetold() {
        due.promise(1);
        for (Twins.Past past : new Twins.Past[] {Twins.BARE, Twins.UNTOLD}) {
            twins.refuses("no county: ahead(0, 0, 0)", past, x -> x.ahead(0, 0, 0), Due.BAD);
            twins.refuses("no county: hayAhead(0, 0)", past, x -> x.hayAhead(0, 0), Due.BAD);
            twins.refuses("no county: dies(0)", past, x -> x.dies(0), Due.BAD);
            twins.refuses("no county: comes(0, 0)", past, x -> x.comes(0, 0), Due.BAD);
            twins.refuses("no county: meet(0, 1)", past, x -> x.meet(0, 1), Due.BAD);
            twins.refuses("no county: grazed(1)", past, x -> x.grazed(1), Due.STATE);
            twins.refuses("no county: shuts(0, 1, 0)", past, x -> x.shuts(0, 1, 0), Due.BAD);
            twins.refuses("no county: lures(0, 0, 1, 0)", past, x -> x.lures(0, 0, 1, 0), Due.BAD);
            twins.refuses("no county: starve(0, 0)", past, x -> x.starve(0, 0), Due.BAD);
            twins.refuses("no county: way(0, 0)", past, x -> x.way(0, 0), Due.BAD);
            twins.refuses("no county: reach(0)", past, x -> x.reach(0), Due.BAD);
            twins.refuses("no county: home()", past, x -> x.home(), Due.STATE);
            twins.refuses("no county: fed(1, 0)", past, x -> x.fed(1, 0), Due.STATE);
            twins.refuses("no county: snow(0, 0, 0, 0, 0)", past, x -> x.snow(0, 0, 0, 0, 0), Due.BAD);
            twins.refuses("no county: drawn(0, 1, 0)", past, x -> x.drawn(0, 1, 0), Due.STATE);
        }
    }

    /** Though the row is missing, or has such places: the quarrel, the road, the county come first. */
    private static void noCountyWithARow() {
        due.promise(1);
        for (Twins.Past past : new Twins.Past[] {Twins.BARE, Twins.UNTOLD}) {
            twins.refuses("no county: who(0, 0, 0, 0, 1)", past, x -> x.who(0, 0, 0, 0, 1), Due.BAD);
            twins.refuses("no county: grids(0, 0, 0, 0, 1)", past, x -> x.grids(0, 0, 0, 0, 1), Due.BAD);
            twins.refuses("no county: which(0, 0, 1)", past, x -> x.which(0, 0, 1), Due.STATE);
            twins.refuses("no county: which(7, 0, 1)", past, x -> x.which(7, 0, 1), Due.STATE);
        }
    }

    private static void rowNumbers() {
        due.promise(2);
        for (Twins.Past past : new Twins.Past[] {Twins.BARE, Twins.RICH, Twins.BRIM}) {
            new Bounds(due, "row", past, (x, n) -> x.row(n[0], n[1], n[2]), 0, 1, 5)
                .number(0, 0, 7)
                .number(1, 0, 2)
                .takes(2, 0).takes(2, 40).refusesAbove(2, 40);
        }
        for (int n = 0; n <= 40; n++) {
            due.is("row(3, 1, " + n + ")", new GridQuarrels().row(3, 1, n), n);
        }
        for (int row = 0; row < 8; row++) {
            due.is("row(" + row + ", 0, 40)", new GridQuarrels().row(row, 0, 40), 40);
        }
        for (int lane = 0; lane < 3; lane++) {
            due.is("row(0, " + lane + ", 0)", new GridQuarrels().row(0, lane, 0), 0);
        }
    }

    private static void rowOfFewerThanNone() {
        due.promise(2);
        for (Twins.Past past : new Twins.Past[] {Twins.BARE, Twins.RICH, Twins.BRIM}) {
            twins.refuses("row(0, 0, -1)", past, x -> x.row(0, 0, -1), Due.SIZE);
            twins.refuses("row(7, 2, -1)", past, x -> x.row(7, 2, -1), Due.SIZE);
            twins.refuses("row(2, 1, least)", past, x -> x.row(2, 1, LEAST), Due.SIZE);
        }
    }

    private static void rowIsBadAheadOfSize() {
        due.promise(2);
        twins.refuses("row(-1, 0, -1)", Twins.RICH, x -> x.row(-1, 0, -1), Due.BAD);
        twins.refuses("row(8, 0, -1)", Twins.RICH, x -> x.row(8, 0, -1), Due.BAD);
        twins.refuses("row(0, -1, -1)", Twins.RICH, x -> x.row(0, -1, -1), Due.BAD);
        twins.refuses("row(0, 3, -1)", Twins.RICH, x -> x.row(0, 3, -1), Due.BAD);
        twins.refuses("row(8, 3, least)", Twins.RICH, x -> x.row(8, 3, LEAST), Due.BAD);
    }

    private static void rowInPlaceOfWhatIsThere() {
        due.promise(2);
        GridQuarrels x = new GridQuarrels();
        x.row(4, 0, 40);
        due.is("none in place of 40", x.row(4, 2, 0), 0);
        due.is("no place is there then", x.set(4, 0, 1), Due.PLACE);
        due.is("40 in place of none", x.row(4, 1, 40), 40);
        due.is("the last place is there then", x.set(4, 39, 40000), 40000 - 65536);
        due.is("one row in all", x.count(0), 1);
        due.is("3 in place of 40", x.row(4, 2, 3), 3);
        due.is("the fourth is gone", x.set(4, 3, 1), Due.PLACE);
        due.is("the lane is another", x.set(4, 2, 40000), 40000);
        due.is("3 had it", x.drop(4), 3);
    }

    /** A quarrel that stays in 0: only a row of noughts tells of it. */
    private static void itemsAreNoughtAtFirst() {
        due.promise(2);
        GridQuarrels x = Due.told("c2,0;r0,1,9;m0,1,0;");
        for (int lane = 0; lane < 3; lane++) {
            x.row(5, lane, 40);
            for (int i = 0; i < 40; i++) {
                x.set(5, i, 1);
            }
            due.is("a row of ones", x.which(5, 28, 12), 0);
            x.row(5, lane, 20);
            x.row(5, lane, 40);
            for (int i = 0; i <= 28; i += 14) {
                due.is("made anew, from " + i + " on", x.which(5, i, 12), 1);
            }
            x.set(5, 39, 1);
            x.drop(5);
            x.row(5, lane, 40);
            due.is("made anew when it was missing", x.which(5, 39, 1), 1);
        }
    }

    private static void setOfARowThatIsNone() {
        due.promise(3);
        for (Twins.Past past : new Twins.Past[] {Twins.BARE, Twins.RICH, Twins.BRIM}) {
            new Bounds(due, "set", past, (x, n) -> x.set(n[0], n[1], n[2]), 0, 0, 0).number(0, 0, 7);
        }
        twins.refuses("set(8, -1, 0), BAD ahead of PLACE", Twins.RICH, x -> x.set(8, -1, 0), Due.BAD);
    }

    private static void setOfAMissingRow() {
        due.promise(3);
        twins.refuses("set(7, 0, 1)", Twins.RICH, x -> x.set(7, 0, 1), Due.NULL);
        twins.refuses("set(4, -1, 1), NULL ahead of PLACE", Twins.RICH, x -> x.set(4, -1, 1), Due.NULL);
        twins.refuses("set(5, most, 1), NULL ahead of PLACE", Twins.RICH, x -> x.set(5, MOST, 1), Due.NULL);
    }

    private static void setAtThePlacesOfARow() {
        due.promise(3);
        twins.refuses("set(0, -1, 1)", Twins.RICH, x -> x.set(0, -1, 1), Due.PLACE);
        twins.refuses("set(0, 5, 1) of 5", Twins.RICH, x -> x.set(0, 5, 1), Due.PLACE);
        twins.refuses("set(0, 39, 1) of 5", Twins.RICH, x -> x.set(0, 39, 1), Due.PLACE);
        twins.refuses("set(6, 40, 1) of 40", Twins.RICH, x -> x.set(6, 40, 1), Due.PLACE);
        twins.refuses("set(2, least, 1)", Twins.RICH, x -> x.set(2, LEAST, 1), Due.PLACE);
        twins.refuses("set(2, most, 1)", Twins.RICH, x -> x.set(2, MOST, 1), Due.PLACE);
        due.is("set(0, 0, 9)", Twins.made(Twins.RICH).set(0, 0, 9), 9);
        due.is("set(0, 4, 9) of 5", Twins.made(Twins.RICH).set(0, 4, 9), 9);
        due.is("set(6, 39, 9) of 40", Twins.made(Twins.RICH).set(6, 39, 9), 9);
    }

    private static void setInARowOfNone() {
        due.promise(3);
        twins.refuses("set(3, 0, 1) of none", Twins.RICH, x -> x.set(3, 0, 1), Due.PLACE);
        twins.refuses("set(3, -1, 1) of none", Twins.RICH, x -> x.set(3, -1, 1), Due.PLACE);
    }

    private static void setKeepsTheLowestBitsOfBytes() {
        due.promise(3);
        GridQuarrels x = new GridQuarrels();
        x.row(0, 0, 1);
        int[] given = {0, 126, 127, 128, 129, 255, 256, 383, 384, -1, -127, -128, -129, -256, -257, MOST, LEAST, LEAST + 128};
        int[] kept = {0, 126, 127, -128, -127, -1, 0, 127, -128, -1, -127, -128, 127, 0, -1, -1, 0, -128};
        for (int k = 0; k < given.length; k++) {
            due.is("a byte " + given[k], x.set(0, 0, given[k]), kept[k]);
        }
    }

    private static void setKeepsTheLowestBitsOfShorts() {
        due.promise(3);
        GridQuarrels x = new GridQuarrels();
        x.row(0, 1, 1);
        int[] given = {128, 32766, 32767, 32768, 65535, 65536, 98303, 98304, -1, -32768, -32769, -65536, MOST, LEAST, LEAST + 32768};
        int[] kept = {128, 32766, 32767, -32768, -1, 0, 32767, -32768, -1, -32768, 32767, 0, -1, 0, -32768};
        for (int k = 0; k < given.length; k++) {
            due.is("a short " + given[k], x.set(0, 0, given[k]), kept[k]);
        }
    }

    private static void setKeepsAllBitsOfInts() {
        due.promise(3);
        GridQuarrels x = new GridQuarrels();
        x.row(0, 2, 1);
        int[] given = {0, -1, 128, 32768, 65536, -32769, MOST, LEAST};
        for (int v : given) {
            due.is("an int " + v, x.set(0, 0, v), v);
        }
        keptAsItWasCut();
    }

    /** 256 and 65537 are kept as 0 and 1, where a quarrel is; as ints they are no parishes. */
    private static void keptAsItWasCut() {
        GridQuarrels x = Due.told("c2,0;r0,1,9;m0,1,0;m1,1,1;");
        x.row(0, 0, 1);
        x.row(1, 1, 1);
        x.row(2, 2, 1);
        x.set(0, 0, 256);
        x.set(1, 0, 65537);
        x.set(2, 0, 65536);
        due.is("the byte is 0", x.which(0, 0, 1), 1);
        due.is("the short is 1", x.which(1, 0, 1), 2);
        due.is("the int is neither", x.which(2, 0, 1), 0);
    }

    private static void copyOfRowsThatAreNone() {
        due.promise(4);
        for (Twins.Past past : new Twins.Past[] {Twins.BARE, Twins.RICH, Twins.BRIM}) {
            new Bounds(due, "copy", past, (x, n) -> x.copy(n[0], n[1], n[2], n[3], n[4]), 0, 0, 0, 0, 0)
                .number(0, 0, 7)
                .number(2, 0, 7);
        }
        twins.refuses("copy(8, -1, 8, -1, -1)", Twins.RICH, x -> x.copy(8, -1, 8, -1, -1), Due.BAD);
        twins.refuses("BAD ahead of NULL: copy(4, 0, 8, 0, 0)", Twins.RICH, x -> x.copy(4, 0, 8, 0, 0), Due.BAD);
        twins.refuses("BAD ahead of NULL: copy(-1, 0, 4, 0, 0)", Twins.RICH, x -> x.copy(-1, 0, 4, 0, 0), Due.BAD);
    }

    private static void copyOfMissingRows() {
        due.promise(4);
        twins.refuses("copy(4, 0, 0, 0, 1)", Twins.RICH, x -> x.copy(4, 0, 0, 0, 1), Due.NULL);
        twins.refuses("copy(0, 0, 4, 0, 1)", Twins.RICH, x -> x.copy(0, 0, 4, 0, 1), Due.NULL);
        twins.refuses("copy(4, 0, 5, 0, 1)", Twins.RICH, x -> x.copy(4, 0, 5, 0, 1), Due.NULL);
        twins.refuses("copy(4, 0, 4, 0, 0)", Twins.RICH, x -> x.copy(4, 0, 4, 0, 0), Due.NULL);
    }

    private static void copyOfTwoLanes() {
        due.promise(4);
        int[] ofLane = {0, 1, 2};
        for (int a : ofLane) {
            for (int b : ofLane) {
                if (a != b) {
                    twins.refuses("copy(" + a + ", 0, " + b + ", 0, 1)", Twins.RICH, x -> x.copy(a, 0, b, 0, 1), Due.STORE);
                    twins.refuses("copy(" + a + ", 0, " + b + ", 0, 0)", Twins.RICH, x -> x.copy(a, 0, b, 0, 0), Due.STORE);
                }
            }
        }
    }

    /** Row 0 has 5 bytes, row 6 has 40, row 3 no int at all. */
    private static void copyBeyondAnEnd() {
        due.promise(4);
        due.is("copy(0, 0, 6, 35, 5)", Twins.made(Twins.RICH).copy(0, 0, 6, 35, 5), 5);
        due.is("copy(6, 35, 0, 0, 5)", Twins.made(Twins.RICH).copy(6, 35, 0, 0, 5), 5);
        due.is("copy(0, 4, 6, 39, 1)", Twins.made(Twins.RICH).copy(0, 4, 6, 39, 1), 1);
        twins.refuses("copy(0, 1, 6, 0, 5)", Twins.RICH, x -> x.copy(0, 1, 6, 0, 5), Due.PLACE);
        twins.refuses("copy(0, 0, 6, 36, 5)", Twins.RICH, x -> x.copy(0, 0, 6, 36, 5), Due.PLACE);
        twins.refuses("copy(0, 0, 6, 0, 6)", Twins.RICH, x -> x.copy(0, 0, 6, 0, 6), Due.PLACE);
        twins.refuses("copy(6, 36, 0, 0, 5)", Twins.RICH, x -> x.copy(6, 36, 0, 0, 5), Due.PLACE);
        twins.refuses("copy(6, 0, 0, 1, 5)", Twins.RICH, x -> x.copy(6, 0, 0, 1, 5), Due.PLACE);
        twins.refuses("copy(0, 5, 6, 0, 1)", Twins.RICH, x -> x.copy(0, 5, 6, 0, 1), Due.PLACE);
        twins.refuses("copy(6, 0, 0, 5, 1)", Twins.RICH, x -> x.copy(6, 0, 0, 5, 1), Due.PLACE);
        twins.refuses("copy(6, 0, 6, 0, 41)", Twins.RICH, x -> x.copy(6, 0, 6, 0, 41), Due.PLACE);
        twins.refuses("copy(2, 0, 3, 0, 1)", Twins.RICH, x -> x.copy(2, 0, 3, 0, 1), Due.PLACE);
        twins.refuses("copy(3, 0, 2, 0, 1)", Twins.RICH, x -> x.copy(3, 0, 2, 0, 1), Due.PLACE);
        twins.refuses("none beyond an end: copy(0, 6, 6, 0, 0)", Twins.RICH, x -> x.copy(0, 6, 6, 0, 0), Due.PLACE);
        twins.refuses("none beyond an end: copy(6, 0, 0, 6, 0)", Twins.RICH, x -> x.copy(6, 0, 0, 6, 0), Due.PLACE);
        twins.refuses("none beyond an end: copy(3, 0, 3, 1, 0)", Twins.RICH, x -> x.copy(3, 0, 3, 1, 0), Due.PLACE);
    }

    private static void copyBelowNought() {
        due.promise(4);
        twins.refuses("copy(0, -1, 6, 0, 1)", Twins.RICH, x -> x.copy(0, -1, 6, 0, 1), Due.PLACE);
        twins.refuses("copy(0, 0, 6, -1, 1)", Twins.RICH, x -> x.copy(0, 0, 6, -1, 1), Due.PLACE);
        twins.refuses("copy(0, 0, 6, 0, -1)", Twins.RICH, x -> x.copy(0, 0, 6, 0, -1), Due.PLACE);
        twins.refuses("copy(0, 3, 6, 3, -1)", Twins.RICH, x -> x.copy(0, 3, 6, 3, -1), Due.PLACE);
        twins.refuses("copy(0, -1, 6, 0, 0)", Twins.RICH, x -> x.copy(0, -1, 6, 0, 0), Due.PLACE);
        twins.refuses("copy(0, 0, 6, -1, 0)", Twins.RICH, x -> x.copy(0, 0, 6, -1, 0), Due.PLACE);
        twins.refuses("copy(3, 0, 3, 0, -1)", Twins.RICH, x -> x.copy(3, 0, 3, 0, -1), Due.PLACE);
    }

    private static void copyOfNumbersThatWouldWrap() {
        due.promise(4);
        int[] odd = {LEAST, LEAST + 1, MOST - 1, MOST};
        for (int v : odd) {
            twins.refuses("copy(0, " + v + ", 6, 0, 1)", Twins.RICH, x -> x.copy(0, v, 6, 0, 1), Due.PLACE);
            twins.refuses("copy(0, 0, 6, " + v + ", 1)", Twins.RICH, x -> x.copy(0, 0, 6, v, 1), Due.PLACE);
            twins.refuses("copy(0, 0, 6, 0, " + v + ")", Twins.RICH, x -> x.copy(0, 0, 6, 0, v), Due.PLACE);
            twins.refuses("copy(0, 2, 6, 2, " + v + ")", Twins.RICH, x -> x.copy(0, 2, 6, 2, v), Due.PLACE);
            for (int w : odd) {
                twins.refuses("copy(0, " + v + ", 6, " + v + ", " + w + ")", Twins.RICH, x -> x.copy(0, v, 6, v, w), Due.PLACE);
            }
        }
    }

    private static void copyOfNone() {
        due.promise(4);
        twins.tellsOfRow("copy(0, 0, 6, 0, 0)", Twins.RICH, x -> x.copy(0, 0, 6, 0, 0), 0);
        twins.tellsOfRow("copy(0, 5, 6, 40, 0)", Twins.RICH, x -> x.copy(0, 5, 6, 40, 0), 0);
        twins.tellsOfRow("copy(6, 40, 0, 5, 0)", Twins.RICH, x -> x.copy(6, 40, 0, 5, 0), 0);
        twins.tellsOfRow("copy(3, 0, 3, 0, 0) of a row of none", Twins.RICH, x -> x.copy(3, 0, 3, 0, 0), 0);
        twins.tellsOfRow("copy(3, 0, 2, 12, 0) of a row of none", Twins.RICH, x -> x.copy(3, 0, 2, 12, 0), 0);
    }

    private static void copyOfAll() {
        due.promise(4);
        GridQuarrels x = Due.told("c5,0;r0,1,9;m0,1,0;m1,1,0;m2,1,0;m3,1,0;m4,1,0;");
        x.row(1, 1, 40);
        x.row(2, 1, 40);
        for (int i = 0; i < 40; i++) {
            x.set(1, i, i % 5);
        }
        due.is("copy(1, 0, 2, 0, 40)", x.copy(1, 0, 2, 0, 40), 40);
        for (int i = 0; i < 40; i++) {
            due.is("item " + i, x.which(2, i, 1), 1 << i % 5);
            due.is("item " + i + " of a stays", x.which(1, i, 1), 1 << i % 5);
        }
        twins.tellsOfRow("a row to itself", Twins.RICH, y -> y.copy(2, 0, 2, 0, 12), 12);
    }

    private static void copyAsTheyWereAhead() {
        due.promise(4);
        copied("upwards by 1", 0, 1, 4, 0, 0, 1, 2, 3);
        copied("downwards by 1", 1, 0, 4, 1, 2, 3, 4, 4);
        copied("upwards by 2", 0, 2, 3, 0, 1, 0, 1, 2);
        copied("downwards by 2", 2, 0, 3, 2, 3, 4, 3, 4);
        copied("the first to the last", 0, 4, 1, 0, 1, 2, 3, 0);
    }

    /** Copies within a row of 0, 1, 2, 3, 4. */
    private static void copied(String what, int i, int j, int n, int... items) {
        for (int lane = 0; lane < 3; lane++) {
            GridQuarrels x = Due.told("c5,0;r0,1,9;m0,1,0;m1,1,0;m2,1,0;m3,1,0;m4,1,0;");
            x.row(7, lane, 5);
            for (int k = 0; k < 5; k++) {
                x.set(7, k, k);
            }
            due.is(what, x.copy(7, i, 7, j, n), n);
            for (int k = 0; k < 5; k++) {
                due.is(what + ", item " + k, x.which(7, k, 1), 1 << items[k]);
            }
        }
    }

    private static void copyFindsTheFirst() {
        due.promise(4);
        twins.refuses("NULL ahead of PLACE: copy(4, -1, 0, 0, 1)", Twins.RICH, x -> x.copy(4, -1, 0, 0, 1), Due.NULL);
        twins.refuses("NULL ahead of PLACE: copy(0, 9, 4, 9, 9)", Twins.RICH, x -> x.copy(0, 9, 4, 9, 9), Due.NULL);
        twins.refuses("NULL ahead of PLACE: copy(4, 0, 0, 0, -1)", Twins.RICH, x -> x.copy(4, 0, 0, 0, -1), Due.NULL);
        twins.refuses("STORE ahead of PLACE: copy(0, -1, 1, 0, 1)", Twins.RICH, x -> x.copy(0, -1, 1, 0, 1), Due.STORE);
        twins.refuses("STORE ahead of PLACE: copy(1, 0, 2, 99, 1)", Twins.RICH, x -> x.copy(1, 0, 2, 99, 1), Due.STORE);
        twins.refuses("STORE ahead of PLACE: copy(2, 0, 0, 0, -1)", Twins.RICH, x -> x.copy(2, 0, 0, 0, -1), Due.STORE);
        GridQuarrels x = new GridQuarrels();
        x.row(0, 1, 4);
        due.is("NULL ahead of STORE: a row that was dropped has no lane", x.drop(0), 4);
        x.row(1, 0, 4);
        due.is("NULL ahead of STORE", x.copy(0, 0, 1, 0, 1), Due.NULL);
        due.is("NULL ahead of STORE, the other way", x.copy(1, 0, 0, 0, 1), Due.NULL);
    }

    private static void dropNumbers() {
        due.promise(5);
        for (Twins.Past past : new Twins.Past[] {Twins.BARE, Twins.RICH, Twins.BRIM}) {
            new Bounds(due, "drop", past, (x, n) -> x.drop(n[0]), 0).number(0, 0, 7);
        }
    }

    private static void dropOfAMissingRow() {
        due.promise(5);
        twins.refuses("drop(4)", Twins.RICH, x -> x.drop(4), Due.NULL);
        twins.refuses("drop(7)", Twins.RICH, x -> x.drop(7), Due.NULL);
        twins.refuses("drop(0) again", x -> {
            Twins.RICH.of(x);
            x.drop(0);
        }, x -> x.drop(0), Due.NULL);
    }

    private static void dropTellsHowManyItHad() {
        due.promise(5);
        GridQuarrels x = Twins.made(Twins.BRIM);
        for (int row = 0; row < 8; row++) {
            due.is("drop(" + row + ") of 40", x.drop(row), 40);
            due.is("rows then", x.count(0), 7 - row);
        }
        x.row(0, 2, 0);
        due.is("drop(0) of none", x.drop(0), 0);
        due.is("drop(0) of a missing one", x.drop(0), Due.NULL);
        x.row(7, 0, 1);
        due.is("drop(7) of one", x.drop(7), 1);
    }

    private static void statusAtFirst() {
        due.promise(43);
        due.is("status() of a new object", new GridQuarrels().status(), 0);
        due.is("status() behind a county", Due.told(Twins.WIDE).status(), 0);
    }

    /** A past that leaves one of the numbers 0 to 5. */
    private static Twins.Past leaving(int number) {
        return x -> {
            Twins.RICH.of(x);
            switch (number) {
                case 1: x.drop(7); break;
                case 2: x.set(0, 5, 0); break;
                case 3: x.as(0, 2); break;
                case 4: x.row(0, 0, -1); break;
                case 5: x.copy(0, 0, 1, 0, 0); break;
                default: x.as(0, 0);
            }
        };
    }

    private static void statusIsLeftByWhatIsRefused() {
        due.promise(43);
        for (int number = 0; number <= 5; number++) {
            due.is("status()", Twins.made(leaving(number)).status(), number);
            statusStays(number, "BAD: row", x -> x.row(8, 0, 0), Due.BAD);
            statusStays(number, "BAD: row of 41", x -> x.row(0, 0, 41), Due.BAD);
            statusStays(number, "BAD: set", x -> x.set(8, 0, 0), Due.BAD);
            statusStays(number, "BAD: copy", x -> x.copy(0, 0, 8, 0, 0), Due.BAD);
            statusStays(number, "BAD: drop", x -> x.drop(-1), Due.BAD);
            statusStays(number, "BAD: as", x -> x.as(0, 6), Due.BAD);
            statusStays(number, "BAD: who", x -> x.who(0, 3, 7, 0, 1), Due.BAD);
            statusStays(number, "BAD: grids", x -> x.grids(7, 0, 7, 0, 1), Due.BAD);
            statusStays(number, "BAD: which", x -> x.which(7, 0, 13), Due.BAD);
            statusStays(number, "STATE: who of a dead one", x -> x.who(3, 0, 7, 0, 1), Due.STATE);
        }
        GridQuarrels x = new GridQuarrels();
        x.set(0, 0, 0);
        due.is("which without a county", x.which(0, 0, 1), Due.STATE);
        due.is("STATE: which leaves status()", x.status(), 1);
        x = Twins.made(Twins.BRIM);
        due.is("status() ahead of a FULL one", x.status(), 2);
        due.is("a FULL feed", x.feed(0), Due.FULL);
        due.is("a FULL year", x.years(1), Due.FULL);
        due.is("status() behind them", x.status(), 2);
    }

    private static void statusStays(int number, String what, Twins.Call call, int want) {
        GridQuarrels x = Twins.made(leaving(number));
        due.is(what, call.on(x), want);
        due.is("status() behind " + what, x.status(), number);
    }

    private static void statusIsLeftByCallsWithoutARow() {
        due.promise(43);
        for (int number = 0; number <= 5; number++) {
            GridQuarrels x = Twins.made(leaving(number));
            x.feed(0);
            x.county();
            x.fault();
            x.undo();
            x.years(1);
            x.hay(0, 1);
            x.grid(0, 1);
            x.drive(0, 0);
            x.grow(0, 1);
            x.quarrel(0, 0);
            x.road(0, 0);
            x.parish(0, 0);
            x.ahead(0, 1, 0);
            x.hayAhead(0, 1);
            x.dies(0);
            x.comes(0, 1);
            x.meet(0, 1);
            x.grazed(1);
            x.shuts(0, 1, 0);
            x.lures(0, 0, 1, 0);
            x.starve(0, 0);
            x.way(0, 0);
            x.reach(0);
            x.home();
            x.fed(1, 0);
            x.snow(0, 0, 1, 1, 0);
            x.drawn(1, 1, 0);
            x.image(0);
            x.restore(0);
            x.kind(0);
            x.ask(0, 0);
            x.trace(0);
            x.count(0);
            due.is("status() behind calls without a row", x.status(), number);
            due.is("county()", Due.tell(x, Twins.SMALL), 2);
            due.is("status() behind another county", x.status(), number);
        }
    }

    /** Each call with a row, by its findings and by none, whatever was left ahead of it. */
    private static void statusOfEveryCallWithARow() {
        due.promise(43);
        for (int number = 0; number <= 5; number++) {
            leaves(number, "row", x -> x.row(7, 0, 0), 0);
            leaves(number, "row of fewer than none", x -> x.row(7, 0, -1), 4);
            leaves(number, "set", x -> x.set(0, 0, 0), 0);
            leaves(number, "set of a missing row", x -> x.set(7, 0, 0), 1);
            leaves(number, "set at no place", x -> x.set(0, 5, 0), 2);
            leaves(number, "copy", x -> x.copy(0, 0, 0, 0, 0), 0);
            leaves(number, "copy of a missing row", x -> x.copy(7, 0, 0, 0, 0), 1);
            leaves(number, "copy at no place", x -> x.copy(0, 0, 0, 0, 6), 2);
            leaves(number, "copy of two lanes", x -> x.copy(0, 0, 2, 0, 0), 5);
            leaves(number, "drop", x -> x.drop(0), 0);
            leaves(number, "drop of a missing row", x -> x.drop(7), 1);
            leaves(number, "who", x -> x.who(0, 0, 0, 0, 5), 0);
            leaves(number, "who of a missing row", x -> x.who(0, 0, 7, 0, 5), 1);
            leaves(number, "who at no place", x -> x.who(0, 0, 0, 0, 6), 2);
            leaves(number, "grids", x -> x.grids(0, 0, 0, 0, 5), 0);
            leaves(number, "grids of a missing row", x -> x.grids(0, 0, 7, 0, 5), 1);
            leaves(number, "grids at no place", x -> x.grids(0, 0, 0, 0, 6), 2);
            leaves(number, "which", x -> x.which(0, 0, 5), 0);
            leaves(number, "which of a missing row", x -> x.which(7, 0, 5), 1);
            leaves(number, "which at no place", x -> x.which(0, 0, 6), 2);
            leaves(number, "as", x -> x.as(1, 1), 0);
            leaves(number, "as of another kind", x -> x.as(1, 3), 3);
        }
    }

    private static void leaves(int number, String what, Twins.Call call, int want) {
        GridQuarrels x = Twins.made(leaving(number));
        call.on(x);
        due.is("status() behind " + what, x.status(), want);
        due.is("status() again behind " + what, x.status(), want);
    }
}
