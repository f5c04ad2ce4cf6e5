/**
 * Objects with a past, for what changes nothing: a call is made on one of two twins alone, then all that
 * can be seen of both is set side by side. Some of it can only be seen once, so each sight has twins of
 * its own; no object comes near its 512th call.
 */
final class Twins {
    interface Past {
        void of(GridQuarrels x);
    }

    interface Call {
        long on(GridQuarrels x);
    }

    private interface Sight {
        void of(GridQuarrels x, StringBuilder seen);
    }

    /** A text of seven parishes, seven roads, and a quarrel of every kind. */
    static final String WIDE =
        "c7,0;r0,1,1;r1,2,2;r2,3,0;r3,4,9;r4,5,3;r5,6,4;r6,0,5;p0,4,1;t1,5,1;k2,6,3;b3,1,4;m4,2,4;";
    /** Another text, that is whole. */
    static final String SMALL = "c2,4;r1,0,6;t1,7,0;k0,2,1;";

    /** A new object. */
    static final Past BARE = x -> { };
    /** No county, but all else that there can be without one: rows, a fault, a finding, a whole text on the tape. */
    static final Past UNTOLD = x -> {
        Due.tell(x, "c9");
        rows(x);
        feed(x, SMALL);
    };
    /** A county with a dead quarrel (3), acts, image 0, rows 0, 1, 2, 3 and 6, a trace, a fault, a finding, a whole text on the tape. */
    static final Past RICH = x -> {
        Due.tell(x, "c9");
        Due.tell(x, WIDE);
        x.years(1);
        x.hay(1, 5);
        x.hay(0, 2);
        x.grid(3, 7);
        x.image(0);
        x.drive(0, 6);
        x.grow(2, 8);
        x.years(2);
        x.ask(1, 0);
        rows(x);
        feed(x, SMALL);
    };
    /** All that can be full is: YEAR 999, 24 acts, 99 hay in parish 1, 120 bytes, 8 rows; quarrel 1 is dead. */
    static final Past BRIM = x -> {
        Due.tell(x, "c2,0;r0,1,9;m0,1,0;p0,9,1;");
        for (int n = 0; n < 41; n++) {
            x.years(24);
        }
        for (int n = 0; n < 11; n++) {
            x.hay(1, 9);
        }
        x.image(1);
        x.years(15);
        for (int row = 0; row < 8; row++) {
            x.row(row, row % 3, 40);
        }
        x.set(0, 40, 0);
        feed(x, "c2,0;r0,1,9;m0,1,0;".repeat(7).substring(0, 120));
    };

    private static final Sight[] SIGHTS = {
        Twins::standing, Twins::undonePlaces, Twins::undoneSizes, Twins::undoneGrids, Twins::undoneHay,
        Twins::tape, Twins::shapes, (x, seen) -> items(x, 0, seen), (x, seen) -> items(x, 2, seen),
        (x, seen) -> items(x, 4, seen), (x, seen) -> items(x, 6, seen)
    };

    private final Due due;

    Twins(Due due) {
        this.due = due;
    }

    static GridQuarrels made(Past past) {
        GridQuarrels x = new GridQuarrels();
        past.of(x);
        return x;
    }

    static void feed(GridQuarrels x, String text) {
        for (int i = 0; i < text.length(); i++) {
            x.feed(text.charAt(i));
        }
    }

    private static void rows(GridQuarrels x) {
        fill(x, 0, 0, 0, 1, 2, 3, 4);
        fill(x, 1, 1, 4, 3, 2);
        fill(x, 2, 2, 3, 1, 4, 1, 0, 2, 0, 4, 2, 3, 1, 0);
        x.row(3, 2, 0);
        x.row(6, 0, 40);
        x.row(5, 0, -1);
    }

    private static void fill(GridQuarrels x, int row, int lane, int... items) {
        x.row(row, lane, items.length);
        for (int i = 0; i < items.length; i++) {
            x.set(row, i, items[i]);
        }
    }

    /** What is refused leaves status(), too; what is found leaves its number there. */
    void refuses(String name, Past past, Call call, long want) {
        boolean found = want <= Due.NULL && want >= Due.STORE;
        answers(name, past, call, want, found ? (int) (-1000010 - want) : made(past).status());
    }

    /** What is told by a call that has no row to it, and changes nothing. */
    void tells(String name, Past past, Call call, long want) {
        answers(name, past, call, want, made(past).status());
    }

    /** What is told by a call with a row, or as(): it had no finding. */
    void tellsOfRow(String name, Past past, Call call, long want) {
        answers(name, past, call, want, 0);
    }

    /** As nothing changes, the same call has the same answer again. */
    private void answers(String name, Past past, Call call, long want, int status) {
        GridQuarrels x = made(past);
        due.is(name, call.on(x), want);
        due.is("status() behind " + name, x.status(), status);
        due.is(name + ", again", call.on(x), want);
        changesNothing(name, past, call);
    }

    private void changesNothing(String name, Past past, Call call) {
        Past touched = x -> {
            past.of(x);
            call.on(x);
        };
        for (Sight sight : SIGHTS) {
            alike("nothing changes by " + name, touched, past, sight);
        }
        alike("no image changes by " + name, touched, past, Twins::images);
    }

    /** Whether all that can be seen behind one past is as behind another. */
    void alike(String name, Past one, Past other) {
        alikeButImages(name, one, other);
        alike(name, one, other, Twins::images);
    }

    void alikeButImages(String name, Past one, Past other) {
        due.is("status() behind " + name, made(one).status(), made(other).status());
        for (Sight sight : SIGHTS) {
            alike(name, one, other, sight);
        }
    }

    private void alike(String name, Past one, Past other, Sight sight) {
        String seen = seen(made(one), sight);
        String due = seen(made(other), sight);
        this.due.that(name + ": there is" + seen + " in place of" + due, seen.equals(due));
    }

    private static String seen(GridQuarrels x, Sight sight) {
        StringBuilder seen = new StringBuilder();
        sight.of(x, seen);
        return seen.toString();
    }

    private static void add(StringBuilder seen, long answer) {
        seen.append(' ').append(answer);
    }

    private static void standing(GridQuarrels x, StringBuilder seen) {
        for (int what = 0; what < 8; what++) {
            add(seen, x.count(what));
        }
        add(seen, x.fault());
        for (int i = 0; i < 16; i++) {
            add(seen, x.trace(i));
        }
        countyOf(x, seen);
    }

    private static void countyOf(GridQuarrels x, StringBuilder seen) {
        for (int what = 1; what < 7; what++) {
            add(seen, x.count(what));
        }
        for (int q = 0; q < 5; q++) {
            add(seen, x.kind(q));
            for (int what = 0; what < 5; what++) {
                add(seen, x.quarrel(q, what));
            }
        }
        for (int i = 0; i < 7; i++) {
            for (int what = 0; what < 3; what++) {
                add(seen, x.road(i, what));
                add(seen, x.parish(i, what));
            }
        }
        add(seen, x.home());
    }

    private static void undonePlaces(GridQuarrels x, StringBuilder seen) {
        undone(x, seen, (y, s) -> ofQuarrels(y, 0, s));
    }

    private static void undoneSizes(GridQuarrels x, StringBuilder seen) {
        undone(x, seen, (y, s) -> ofQuarrels(y, 1, s));
    }

    private static void undoneGrids(GridQuarrels x, StringBuilder seen) {
        int roads = x.count(2);
        undone(x, seen, (y, s) -> {
            for (int r = 0; r < roads; r++) {
                add(s, y.road(r, 2));
            }
        });
    }

    private static void undoneHay(GridQuarrels x, StringBuilder seen) {
        int parishes = x.count(1);
        undone(x, seen, (y, s) -> {
            add(s, y.count(4));
            for (int p = 0; p < parishes; p++) {
                add(s, y.parish(p, 0));
            }
        });
    }

    private static void ofQuarrels(GridQuarrels x, int what, StringBuilder seen) {
        for (int q = 0; q < 5; q++) {
            add(seen, x.quarrel(q, what));
        }
    }

    /** One more than can be kept: the last answer is STATE. */
    private static void undone(GridQuarrels x, StringBuilder seen, Sight each) {
        int acts = x.count(6);
        for (int n = 0; n <= acts; n++) {
            add(seen, x.undo());
            each.of(x, seen);
        }
    }

    private static void images(GridQuarrels x, StringBuilder seen) {
        add(seen, x.restore(0));
        countyOf(x, seen);
        add(seen, x.restore(1));
        countyOf(x, seen);
    }

    private static void tape(GridQuarrels x, StringBuilder seen) {
        add(seen, x.county());
        add(seen, x.fault());
        countyOf(x, seen);
    }

    private static void shapes(GridQuarrels x, StringBuilder seen) {
        for (int row = 0; row < 8; row++) {
            add(seen, x.set(row, 0, 70000));
            add(seen, x.drop(row));
        }
    }

    /** Five quarrels that stay in five parishes tell items 0 to 4 apart. */
    private static void items(GridQuarrels x, int from, StringBuilder seen) {
        x.county();
        Due.tell(x, "c5,0;r0,1,9;m0,1,0;m1,1,0;m2,1,0;m3,1,0;m4,1,0;");
        for (int row = from; row < from + 2; row++) {
            int answer = 0;
            for (int i = 0; i < 40 && answer >= 0; i++) {
                answer = x.which(row, i, 1);
                add(seen, answer);
            }
        }
    }
}
