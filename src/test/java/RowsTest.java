/** Promises 1 to 5 and 43: a new object, rows, and what was found in them. */
public final class RowsTest {
    private static final Due due = new Due();

    public static void main(String[] args) {
        newObject();
        row();
        set();
        copy();
        drop();
        status();
        due.end();
    }

    private static void newObject() {
        due.promise(1);
        GridQuarrels x = new GridQuarrels();
        for (int what = 0; what <= 7; what++) {
            due.is("count(" + what + ")", x.count(what), 0);
        }
        due.is("fault()", x.fault(), 0);
        due.is("status()", x.status(), 0);
        due.is("trace(0)", x.trace(0), Due.NONE);
        due.is("undo()", x.undo(), Due.STATE);
        due.is("home()", x.home(), Due.STATE);
        due.is("years(99)", x.years(99), Due.STATE);
        due.is("grazed(99)", x.grazed(99), Due.STATE);
        due.is("fed(99, 9)", x.fed(99, 9), Due.STATE);
        due.is("which(-1, 0, 0)", x.which(-1, 0, 0), Due.STATE);
        due.is("drawn(99, 0, 9)", x.drawn(99, 0, 9), Due.STATE);
        due.is("image(1)", x.image(1), Due.STATE);
        due.is("restore(1)", x.restore(1), Due.STATE);
        due.is("quarrel(0, 0)", x.quarrel(0, 0), Due.BAD);
        for (int r = 0; r < 8; r++) {
            due.is("drop(" + r + ")", x.drop(r), Due.NULL);
        }
    }

    private static void row() {
        due.promise(2);
        GridQuarrels x = new GridQuarrels();
        due.is("row(0, 0, 40)", x.row(0, 0, 40), 40);
        due.is("row(7, 2, 0)", x.row(7, 2, 0), 0);
        due.is("count(0)", x.count(0), 2);
        due.is("row(8, 0, 1)", x.row(8, 0, 1), Due.BAD);
        due.is("row(-1, 0, 1)", x.row(-1, 0, 1), Due.BAD);
        due.is("row(1, -1, 1)", x.row(1, -1, 1), Due.BAD);
        due.is("row(1, 3, 1)", x.row(1, 3, 1), Due.BAD);
        due.is("row(1, 0, 41)", x.row(1, 0, 41), Due.BAD);
        due.is("row(1, 3, -1)", x.row(1, 3, -1), Due.BAD);
        due.is("row(1, 1, -1)", x.row(1, 1, -1), Due.SIZE);
        due.is("count(0)", x.count(0), 2);
        due.is("set(0, 39, 5)", x.set(0, 39, 5), 5);
        due.is("row(0, 0, -5)", x.row(0, 0, -5), Due.SIZE);
        due.is("what is found changes no row: set(0, 39, 6)", x.set(0, 39, 6), 6);
        due.is("row(0, 1, 40) in place of it", x.row(0, 1, 40), 40);
        due.is("count(0)", x.count(0), 2);
        due.is("the lane is the new one: set(0, 0, 300)", x.set(0, 0, 300), 300);
        itemsAreNoughtAtFirst();
    }

    /** The items of a row are seen by which(): only a row of noughts fits a quarrel that stays in 0. */
    private static void itemsAreNoughtAtFirst() {
        GridQuarrels x = Due.told("c2,9;r0,1,9;m0,1,0;");
        Due.fill(x, 3, 1, 1, 1, 1);
        due.is("which of ones", x.which(3, 0, 4), 0);
        x.row(3, 0, 4);
        due.is("which of a new row", x.which(3, 0, 4), 1);
        Due.fill(x, 4, 1);
        due.is("row(3, 2, 40)", x.row(3, 2, 40), 40);
        due.is("the row behind it stays", x.which(4, 0, 1), 0);
        due.is("row(7, 2, 40)", x.row(7, 2, 40), 40);
        for (int n = 1; n <= 12; n++) {
            due.is("the last items of the last row", x.which(7, 40 - n, n), 1);
        }
        due.is("beyond them", x.which(7, 40, 1), Due.PLACE);
    }

    private static void set() {
        due.promise(3);
        GridQuarrels x = new GridQuarrels();
        x.row(0, 0, 2);
        x.row(1, 1, 2);
        x.row(2, 2, 2);
        due.is("bytes 127", x.set(0, 0, 127), 127);
        due.is("bytes 128", x.set(0, 0, 128), -128);
        due.is("bytes -1", x.set(0, 1, -1), -1);
        due.is("bytes 256", x.set(0, 1, 256), 0);
        due.is("bytes 511", x.set(0, 1, 511), -1);
        due.is("shorts 32767", x.set(1, 0, 32767), 32767);
        due.is("shorts 32768", x.set(1, 0, 32768), -32768);
        due.is("shorts 65536", x.set(1, 1, 65536), 0);
        due.is("shorts -70000", x.set(1, 1, -70000), -4464);
        due.is("ints least", x.set(2, 0, Integer.MIN_VALUE), Integer.MIN_VALUE);
        due.is("ints most", x.set(2, 1, Integer.MAX_VALUE), Integer.MAX_VALUE);
        due.is("set(2, 2, 0)", x.set(2, 2, 0), Due.PLACE);
        due.is("set(2, -1, 0)", x.set(2, -1, 0), Due.PLACE);
        due.is("set(3, 0, 0)", x.set(3, 0, 0), Due.NULL);
        due.is("set(3, -1, 0)", x.set(3, -1, 0), Due.NULL);
        due.is("set(8, 0, 0)", x.set(8, 0, 0), Due.BAD);
        due.is("set(-1, 0, 0)", x.set(-1, 0, 0), Due.BAD);
    }

    private static void copy() {
        due.promise(4);
        GridQuarrels x = new GridQuarrels();
        x.row(0, 0, 4);
        x.row(1, 0, 3);
        x.row(2, 1, 4);
        due.is("copy(0, 1, 1, 0, 3)", x.copy(0, 1, 1, 0, 3), 3);
        due.is("copy(0, 4, 1, 3, 0)", x.copy(0, 4, 1, 3, 0), 0);
        due.is("copy beyond the end of a", x.copy(0, 2, 1, 0, 3), Due.PLACE);
        due.is("copy beyond the end of b", x.copy(0, 0, 1, 1, 3), Due.PLACE);
        due.is("copy with i below 0", x.copy(0, -1, 1, 0, 1), Due.PLACE);
        due.is("copy with j below 0", x.copy(0, 0, 1, -1, 1), Due.PLACE);
        due.is("copy with n below 0", x.copy(0, 0, 1, 0, -1), Due.PLACE);
        due.is("copy with a great n", x.copy(0, 1, 1, 0, Integer.MAX_VALUE), Due.PLACE);
        due.is("copy with a great i", x.copy(0, Integer.MAX_VALUE, 1, 0, 1), Due.PLACE);
        due.is("copy with a great j", x.copy(0, 0, 1, Integer.MAX_VALUE, 2), Due.PLACE);
        due.is("copy of two lanes", x.copy(0, 0, 2, 0, 1), Due.STORE);
        due.is("two lanes come ahead of places", x.copy(0, 9, 2, 0, 1), Due.STORE);
        due.is("two lanes, though none is copied", x.copy(0, 0, 2, 0, 0), Due.STORE);
        due.is("copy from a missing one", x.copy(5, 9, 0, 0, 1), Due.NULL);
        due.is("copy to a missing one", x.copy(2, 9, 5, 0, 1), Due.NULL);
        due.is("copy(8, 0, 0, 0, 0)", x.copy(8, 0, 0, 0, 0), Due.BAD);
        due.is("copy(5, 0, -1, 0, 0)", x.copy(5, 0, -1, 0, 0), Due.BAD);
        whatIsCopiedIsSeen();
    }

    /** Driven by which(): it tells a row of places apart from all others. */
    private static void whatIsCopiedIsSeen() {
        // A plain one in 0 goes to the 9 hay in 1, and is in 1 from then on.
        GridQuarrels x = Due.told("c2,0;r0,1,0;p0,5,0;");
        x.hay(1, 9);
        Due.fill(x, 0, 0, 1, 1, 1, 7);
        Due.fill(x, 1, 7, 7, 7, 7);
        due.is("which ahead of it", x.which(1, 1, 3), 0);
        due.is("copy(0, 1, 1, 1, 3)", x.copy(0, 1, 1, 1, 3), 3);
        due.is("which behind it", x.which(1, 1, 3), 1);
        due.is("what was not copied stays", x.which(1, 0, 3), 0);
        overlappingItemsAsTheyWereAhead();
    }

    private static void overlappingItemsAsTheyWereAhead() {
        // 1 hay lies in 0, 2 in 1: it goes to 1, stays there, comes back to 0, starves there.
        GridQuarrels x = Due.told("c2,1;r0,1,0;p0,5,0;");
        x.hay(1, 1);
        due.is("where behind 1", x.ahead(0, 1, 0), 1);
        due.is("where behind 2", x.ahead(0, 2, 0), 1);
        due.is("where behind 3", x.ahead(0, 3, 0), 0);
        due.is("where behind 4", x.ahead(0, 4, 0), 0);
        Due.fill(x, 0, 1, 1, 0, 0, 5);
        x.copy(0, 0, 0, 1, 4);
        due.is("copied upwards", x.which(0, 1, 4), 1);
        x.copy(0, 1, 0, 0, 4);
        due.is("copied downwards", x.which(0, 0, 4), 1);
    }

    private static void drop() {
        due.promise(5);
        GridQuarrels x = new GridQuarrels();
        x.row(6, 1, 13);
        due.is("drop(6)", x.drop(6), 13);
        due.is("drop(6) again", x.drop(6), Due.NULL);
        due.is("set(6, 0, 0)", x.set(6, 0, 0), Due.NULL);
        due.is("count(0)", x.count(0), 0);
        x.row(6, 1, 0);
        due.is("drop(6) of none", x.drop(6), 0);
        due.is("drop(8)", x.drop(8), Due.BAD);
        due.is("drop(-1)", x.drop(-1), Due.BAD);
    }

    private static void status() {
        due.promise(43);
        GridQuarrels x = Due.told("c2,0;r0,1,0;p0,1,0;t1,5,1;");
        due.is("at first", x.status(), 0);
        x.drop(0);
        due.is("NULL", x.status(), 1);
        x.drop(9);
        due.is("a BAD one leaves it", x.status(), 1);
        x.hay(0, 1);
        x.quarrel(0, 0);
        due.is("a call without a row leaves it", x.status(), 1);
        x.row(0, 0, 3);
        due.is("none", x.status(), 0);
        x.set(0, 3, 0);
        due.is("PLACE by set", x.status(), 2);
        x.set(0, 2, 0);
        due.is("none by set", x.status(), 0);
        x.as(0, 2);
        due.is("KIND", x.status(), 3);
        x.as(0, 9);
        due.is("a BAD as leaves it", x.status(), 3);
        x.as(0, 1);
        due.is("none by as", x.status(), 0);
        x.row(1, 0, -1);
        due.is("SIZE", x.status(), 4);
        x.row(1, 1, 3);
        x.copy(0, 0, 1, 0, 1);
        due.is("STORE", x.status(), 5);
        x.copy(0, 0, 0, 0, 1);
        due.is("none by copy", x.status(), 0);
        x.who(0, 0, 5, 0, 1);
        due.is("NULL by who", x.status(), 1);
        x.who(0, 0, 0, 0, 1);
        due.is("none by who", x.status(), 0);
        x.grids(0, 0, 0, 3, 1);
        due.is("PLACE by grids", x.status(), 2);
        x.grids(0, 0, 0, 2, 1);
        due.is("none by grids", x.status(), 0);
        x.which(5, 0, 1);
        due.is("NULL by which", x.status(), 1);
        x.which(0, 0, 1);
        due.is("none by which", x.status(), 0);
        x.set(0, -1, 0);
        x.drop(0);
        due.is("none by drop", x.status(), 0);
        x.set(0, 0, 0);
        x.years(3);
        due.is("it died", x.dies(0), 0);
        x.who(0, 0, 1, 3, 1);
        due.is("a STATE one leaves it", x.status(), 1);
        due.is("status twice", x.status(), 1);
    }
}
