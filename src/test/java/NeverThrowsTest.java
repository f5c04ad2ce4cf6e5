/** Every call, with every choice of odd numbers, with and without a county: each ends, and with an answer. */
public final class NeverThrowsTest {
    private static final int[] ODD = {Integer.MIN_VALUE, -1, 0, 1, 5, 12, 40, Integer.MAX_VALUE};
    private static final int[] FEW = {Integer.MIN_VALUE, -1, 0, 2, 12, Integer.MAX_VALUE};
    private static final Due due = new Due();
    private static final Twins.Past[] PASTS = {Twins.BARE, Twins.UNTOLD, Twins.RICH, Twins.BRIM};

    public static void main(String[] args) {
        for (Twins.Past past : PASTS) {
            callsOfNone(past);
            callsOfOne(past);
            callsOfTwo(past);
            callsOfThree(past);
            callsOfFour(past);
            callsOfFive(past);
        }
        due.end();
    }

    /** An answer is a number that the document tells: one of its refusals, or no less than the least of an ask. */
    private static void answers(String call, long answer) {
        boolean refusal = answer >= -1000003 && answer <= -1000000 || answer >= -1000015 && answer <= -1000011
            || answer >= -1000220 && answer <= -1000100;
        due.that(call + " answered " + answer, refusal || answer >= -1100);
    }

    private static void callsOfNone(Twins.Past past) {
        Twins.Call[] calls = {x -> x.county(), x -> x.fault(), x -> x.undo(), x -> x.home(), x -> x.status()};
        for (Twins.Call call : calls) {
            answers("a call of none", call.on(Twins.made(past)));
        }
    }

    private static void callsOfOne(Twins.Past past) {
        Bounds.Call[] calls = {(x, n) -> x.drop(n[0]), (x, n) -> x.feed(n[0]), (x, n) -> x.years(n[0]), (x, n) -> x.dies(n[0]),
            (x, n) -> x.grazed(n[0]), (x, n) -> x.reach(n[0]), (x, n) -> x.image(n[0]), (x, n) -> x.restore(n[0]),
            (x, n) -> x.kind(n[0]), (x, n) -> x.trace(n[0]), (x, n) -> x.count(n[0])};
        for (Bounds.Call call : calls) {
            for (int a : ODD) {
                answers("a call of " + a, call.on(Twins.made(past), new int[] {a}));
            }
        }
    }

    private static void callsOfTwo(Twins.Past past) {
        Bounds.Call[] calls = {(x, n) -> x.hay(n[0], n[1]), (x, n) -> x.grid(n[0], n[1]), (x, n) -> x.drive(n[0], n[1]),
            (x, n) -> x.grow(n[0], n[1]), (x, n) -> x.quarrel(n[0], n[1]), (x, n) -> x.road(n[0], n[1]),
            (x, n) -> x.parish(n[0], n[1]), (x, n) -> x.hayAhead(n[0], n[1]), (x, n) -> x.comes(n[0], n[1]),
            (x, n) -> x.meet(n[0], n[1]), (x, n) -> x.starve(n[0], n[1]), (x, n) -> x.way(n[0], n[1]),
            (x, n) -> x.fed(n[0], n[1]), (x, n) -> x.as(n[0], n[1]), (x, n) -> x.ask(n[0], n[1])};
        for (Bounds.Call call : calls) {
            for (int a : ODD) {
                for (int b : ODD) {
                    answers("a call of " + a + ", " + b, call.on(Twins.made(past), new int[] {a, b}));
                }
            }
        }
    }

    private static void callsOfThree(Twins.Past past) {
        Bounds.Call[] calls = {(x, n) -> x.row(n[0], n[1], n[2]), (x, n) -> x.ahead(n[0], n[1], n[2]),
            (x, n) -> x.shuts(n[0], n[1], n[2]), (x, n) -> x.which(n[0], n[1], n[2]), (x, n) -> x.drawn(n[0], n[1], n[2])};
        for (Bounds.Call call : calls) {
            for (int a : ODD) {
                for (int b : ODD) {
                    for (int c : ODD) {
                        answers("a call of " + a + ", " + b + ", " + c, call.on(Twins.made(past), new int[] {a, b, c}));
                    }
                }
            }
        }
        for (int a : ODD) {
            for (int b : ODD) {
                answers("set(" + a + ", " + b + ", 3)", Twins.made(past).set(a, b, 3));
            }
        }
    }

    private static void callsOfFour(Twins.Past past) {
        for (int a : FEW) {
            for (int b : FEW) {
                GridQuarrels x = Twins.made(past);
                for (int c : FEW) {
                    for (int d : FEW) {
                        answers("lures(" + a + ", " + b + ", " + c + ", " + d + ")", x.lures(a, b, c, d));
                    }
                }
            }
        }
    }

    private static void callsOfFive(Twins.Past past) {
        Bounds.Call[] calls = {(x, n) -> x.copy(n[0], n[1], n[2], n[3], n[4]), (x, n) -> x.who(n[0], n[1], n[2], n[3], n[4]),
            (x, n) -> x.grids(n[0], n[1], n[2], n[3], n[4]), (x, n) -> x.snow(n[0], n[1], n[2], n[3], n[4])};
        for (Bounds.Call call : calls) {
            for (int a : FEW) {
                for (int b : FEW) {
                    for (int c : FEW) {
                        GridQuarrels x = Twins.made(past);
                        for (int rest = 0; rest < FEW.length * FEW.length; rest++) {
                            int d = FEW[rest / FEW.length], e = FEW[rest % FEW.length];
                            answers("a call of " + a + ", " + b + ", " + c + ", " + d + ", " + e,
                                call.on(x, new int[] {a, b, c, d, e}));
                        }
                    }
                }
            }
        }
    }
}
