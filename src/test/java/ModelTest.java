import java.util.ArrayList;
import java.util.List;
import java.util.Random;

/** Drawn runs of 512 calls, by fixed seeds: every answer of the class against that of the model. */
public final class ModelTest {
    private static final int RUNS = 1500, CALLS = Life.LAST;
    /** So many calls a step makes at most, but for a text; some make no more than one. */
    private static final int LONGEST_STEP = 16;
    private static final int[] SINGLE = {
        0, 1, 2, 3, 4, 6, 7, 8, 9, 10, 11, 12, 14, 15, 16, 17, 18, 19, 20, 21, 22, 24, 25, 32, 33, 34, 35, 36, 37, 38, 39, 40, 41, 42, 43
    };
    private static final int[] ODD = {Integer.MIN_VALUE, Integer.MAX_VALUE, -1, -2, 41, 1000, 1 << 30, -1000000};

    private final Random random;
    private final GridQuarrels x = new GridQuarrels();
    private final Model model = new Model();
    private final List<String> calls = new ArrayList<>();
    /** In some runs a county has the time to come to much: to more acts than are kept, to its last year. */
    private final int untilAText;

    private ModelTest(int seed) {
        random = new Random(seed);
        untilAText = seed % 3 == 0 ? 400 : 25;
    }

    public static void main(String[] args) {
        int runs = args.length > 0 ? Integer.parseInt(args[0]) : RUNS;
        for (int seed = 0; seed < runs; seed++) {
            if (!new ModelTest(seed).holds()) {
                System.exit(1);
            }
        }
        System.out.println(runs + " drawn runs are as due");
    }

    private boolean holds() {
        while (left() > 0) {
            boolean text = random.nextInt(untilAText) == 0 || model.now == null && random.nextInt(8) == 0;
            boolean held = text ? tell() : call(left() < LONGEST_STEP ? SINGLE[random.nextInt(SINGLE.length)] : random.nextInt(44));
            if (!held) {
                System.out.println(String.join("\n", calls.subList(Math.max(0, calls.size() - 30), calls.size())));
                return false;
            }
        }
        return true;
    }

    private int left() {
        return CALLS - calls.size();
    }

    private boolean same(String call, long got, long due) {
        if (left() == 0) {
            throw new IllegalStateException(call + " is a call too many");
        }
        calls.add(call + " answered " + got + ", due is " + due);
        return got == due;
    }

    /** A number from least to most, now and then one next to them, or an odd one. */
    private int in(int least, int most) {
        int luck = random.nextInt(120);
        if (luck == 0) {
            return least - 1;
        }
        if (luck == 1) {
            return most + 1;
        }
        return luck == 2 ? ODD[random.nextInt(ODD.length)] : least + random.nextInt(most - least + 1);
    }

    private int parish() {
        return in(0, Math.max(0, model.count(1) - 1));
    }

    private int road() {
        return in(0, Math.max(0, model.count(2) - 1));
    }

    private int quarrel() {
        return in(0, Math.max(0, model.count(3) - 1));
    }

    /** With what is looked at behind it; a text for which too few calls are left is not told. */
    private boolean tell() {
        boolean same = true;
        String text = text();
        if (text.length() + 3 > left()) {
            return true;
        }
        for (int i = 0; i < text.length() && same; i++) {
            int letter = text.charAt(i);
            same = same("feed(" + letter + ")", x.feed(letter), model.feed(letter));
        }
        return same && same("county() of " + text, x.county(), model.county())
            && same("fault()", x.fault(), model.fault) && same("count(1)", x.count(1), model.count(1));
    }

    private String text() {
        StringBuilder text = new StringBuilder();
        int parishes = 2 + random.nextInt(6);
        text.append('c').append(parishes).append(',').append(random.nextInt(3) * random.nextInt(5)).append(';');
        int roads = 1 + random.nextInt(random.nextInt(15) == 0 ? 8 : 7);
        for (int r = 0; r < roads; r++) {
            int one = random.nextInt(parishes);
            int other = (one + 1 + random.nextInt(parishes - 1)) % parishes;
            text.append('r').append(one).append(',').append(other).append(',')
                .append(random.nextInt(3) == 0 ? 0 : random.nextInt(10)).append(';');
        }
        int quarrels = 1 + random.nextInt(random.nextInt(15) == 0 ? 6 : 5);
        for (int q = 0; q < quarrels; q++) {
            text.append("ptkbm".charAt(random.nextInt(5))).append(random.nextInt(parishes)).append(',')
                .append(1 + random.nextInt(9)).append(',').append(random.nextInt(parishes)).append(';');
        }
        if (random.nextInt(3) == 0) {
            spoil(text);
        }
        return text.toString();
    }

    private void spoil(StringBuilder text) {
        String signs = "crptkbmxz0123456789,; A/:{`" + (char) 0 + (char) 255;
        int place = random.nextInt(text.length());
        char sign = signs.charAt(random.nextInt(signs.length()));
        switch (random.nextInt(4)) {
            case 0: text.setCharAt(place, sign); break;
            case 1: text.insert(place, sign); break;
            case 2: text.deleteCharAt(place); break;
            default: text.setLength(place);
        }
    }

    private boolean call(int which) {
        if (which < 14) {
            return done(which);
        }
        return which < 24 ? foretold(which) : which < 34 ? found(which) : asked(which);
    }

    private boolean done(int which) {
        int a = in(0, 7), b = in(0, 7), i = in(0, 4), j = in(0, 4), n = in(0, 8);
        int q = quarrel(), p = parish(), r = road(), some = in(1, 9), lane = in(0, 2), v = value();
        switch (which) {
            case 0: {
                int items = in(0, 40);
                return same("row(" + a + ", " + lane + ", " + items + ")", x.row(a, lane, items), model.row(a, lane, items));
            }
            case 1:
            case 2: return same("set(" + a + ", " + i + ", " + v + ")", x.set(a, i, v), model.set(a, i, v));
            case 3: return same("copy(" + a + ", " + i + ", " + b + ", " + j + ", " + n + ")",
                x.copy(a, i, b, j, n), model.copy(a, i, b, j, n));
            case 4: return random.nextInt(3) > 0 || same("drop(" + a + ")", x.drop(a), model.drop(a));
            case 5: return random.nextInt(6) > 0 || same("feed(" + n + ")", x.feed(n), model.feed(n)) && tell();
            case 6: return same("undo()", x.undo(), model.undo());
            case 7: {
                int years = in(1, random.nextInt(9) == 0 ? 24 : 3);
                return same("years(" + years + ")", x.years(years), model.years(years));
            }
            case 8:
            case 9: return same("hay(" + p + ", " + some + ")", x.hay(p, some), model.hay(p, some));
            case 10: return same("grid(" + r + ", " + some + ")", x.grid(r, some), model.grid(r, some));
            case 11: return same("drive(" + q + ", " + r + ")", x.drive(q, r), model.drive(q, r));
            case 12: return same("grow(" + q + ", " + some + ")", x.grow(q, some), model.grow(q, some));
            default: return stands(q, r, p);
        }
    }

    private int value() {
        return random.nextInt(4) == 0 ? random.nextInt() >> random.nextInt(32) : random.nextInt(3);
    }

    private boolean stands(int q, int r, int p) {
        int of = in(0, 4), what = in(0, 2);
        return same("quarrel(" + q + ", " + of + ")", x.quarrel(q, of), model.quarrel(q, of))
            && same("road(" + r + ", " + what + ")", x.road(r, what), model.road(r, what))
            && same("parish(" + p + ", " + what + ")", x.parish(p, what), model.parish(p, what));
    }

    private boolean foretold(int which) {
        int q = quarrel(), p = parish(), other = quarrel(), n = in(0, 60), few = in(1, 30), what = in(0, 1);
        switch (which) {
            case 14: return same("ahead(" + q + ", " + n + ", " + what + ")", x.ahead(q, n, what), model.ahead(q, n, what));
            case 15: return same("hayAhead(" + p + ", " + n + ")", x.hayAhead(p, n), model.hayAhead(p, n));
            case 16: return same("dies(" + q + ")", x.dies(q), model.dies(q));
            case 17: return same("comes(" + q + ", " + p + ")", x.comes(q, p), model.comes(q, p));
            case 18: return same("meet(" + q + ", " + other + ")", x.meet(q, other), model.meet(q, other));
            case 19: return same("grazed(" + few + ")", x.grazed(few), model.grazed(few));
            case 20: return same("shuts(" + p + ", " + few + ", " + what + ")", x.shuts(p, few, what), model.shuts(p, few, what));
            case 21: {
                int soon = random.nextBoolean() ? few : in(1, 6);
                return same("lures(" + q + ", " + p + ", " + soon + ", " + what + ")",
                    x.lures(q, p, soon, what), model.lures(q, p, soon, what));
            }
            case 22: return same("starve(" + q + ", " + what + ")", x.starve(q, what), model.starve(q, what));
            default: return same("way(" + q + ", " + p + ")", x.way(q, p), model.way(q, p))
                && same("reach(" + q + ")", x.reach(q), model.reach(q));
        }
    }

    /** Half the rows tell the true way of a quarrel, so that something fits. */
    private boolean tellTrueWay(int row, int i, int n) {
        if (model.now == null || !Model.in(row, 0, 7) || !Model.in(i, 0, 8) || !Model.in(n, 1, 12) || random.nextBoolean()) {
            return true;
        }
        int lane = random.nextInt(3);
        boolean same = same("row(" + row + ", " + lane + ", " + (i + n) + ")", x.row(row, lane, i + n), model.row(row, lane, i + n));
        List<Integer> path = model.path(random.nextInt(model.now.quarrels.size()), n, c -> { });
        for (int k = 0; k < n && same; k++) {
            int v = path.get(k);
            same = same("set(" + row + ", " + (i + k) + ", " + v + ")", x.set(row, i + k, v), model.set(row, i + k, v));
        }
        return same;
    }

    private boolean found(int which) {
        int q = quarrel(), p = parish(), r = road(), row = in(0, 7), i = in(0, 3), n = in(1, 6);
        int what = in(0, 1), of = in(0, 2), years = in(0, 30), ten = in(0, 10), far = in(0, 60), seed = in(1, 999999);
        n = random.nextInt(6) == 0 ? in(1, 12) : n;
        if (which >= 26 && which <= 30 && !tellTrueWay(row, i, n)) {
            return false;
        }
        switch (which) {
            case 24: return same("home()", x.home(), model.home());
            case 25: return same("fed(" + far + ", " + what + ")", x.fed(far, what), model.fed(far, what));
            case 26:
            case 27:
            case 28: return same("who(" + q + ", " + of + ", " + row + ", " + i + ", " + n + ")",
                x.who(q, of, row, i, n), model.who(q, of, row, i, n));
            case 29: return same("grids(" + r + ", " + q + ", " + row + ", " + i + ", " + n + ")",
                x.grids(r, q, row, i, n), model.grids(r, q, row, i, n));
            case 30: return same("which(" + row + ", " + i + ", " + n + ")", x.which(row, i, n), model.which(row, i, n));
            case 31: return same("snow(" + q + ", " + p + ", " + years + ", " + ten + ", 0)",
                    x.snow(q, p, years, ten, 0), model.snow(q, p, years, ten, 0))
                && same("snow(.., 1)", x.snow(q, p, years, ten, 1), model.snow(q, p, years, ten, 1));
            case 32: return same("drawn(" + far + ", " + seed + ", 0)", x.drawn(far, seed, 0), model.drawn(far, seed, 0));
            default: return same("drawn(" + far + ", " + seed + ", 1)", x.drawn(far, seed, 1), model.drawn(far, seed, 1));
        }
    }

    private boolean asked(int which) {
        int q = quarrel(), k = in(0, 1), kind = in(0, 5), of = in(0, 7);
        switch (which) {
            case 34: return same("image(" + k + ")", x.image(k), model.image(k));
            case 35: return random.nextInt(3) > 0 || same("restore(" + k + ")", x.restore(k), model.restore(k));
            case 36: return same("kind(" + q + ")", x.kind(q), model.kind(q));
            case 37: return same("as(" + q + ", " + kind + ")", x.as(q, kind), model.as(q, kind));
            case 38:
            case 39: return same("ask(" + q + ", " + k + ")", x.ask(q, k), model.ask(q, k));
            case 40: return same("trace(" + of + ")", x.trace(of), model.trace(of));
            case 41: return same("status()", x.status(), model.status);
            case 42: return same("fault()", x.fault(), model.fault);
            default: return same("count(" + of + ")", x.count(of), model.count(of));
        }
    }
}
