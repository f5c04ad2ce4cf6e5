/** A call with numbers: for each of them the last that is taken, and the first that is refused, on both sides. */
final class Bounds {
    interface Call {
        long on(GridQuarrels x, int[] numbers);
    }

    private final Due due;
    private final Twins twins;
    private final String name;
    private final Twins.Past past;
    private final Call call;
    private final int[] taken;

    /** The numbers given here are taken, all together. */
    Bounds(Due due, String name, Twins.Past past, Call call, int... taken) {
        this.due = due;
        this.twins = new Twins(due);
        this.name = name;
        this.past = past;
        this.call = call;
        this.taken = taken;
    }

    Bounds number(int which, int least, int most) {
        takes(which, least);
        takes(which, most);
        refusesBelow(which, least);
        return refusesAbove(which, most);
    }

    Bounds refusesBelow(int which, int least) {
        refuses(which, least - 1);
        return refuses(which, Integer.MIN_VALUE);
    }

    Bounds refusesAbove(int which, int most) {
        refuses(which, most + 1);
        return refuses(which, Integer.MAX_VALUE);
    }

    Bounds takes(int which, int v) {
        int[] numbers = with(which, v);
        due.that(told(numbers) + " is taken", call.on(Twins.made(past), numbers) != Due.BAD);
        return this;
    }

    private Bounds refuses(int which, int v) {
        int[] numbers = with(which, v);
        twins.refuses(told(numbers), past, x -> call.on(x, numbers), Due.BAD);
        return this;
    }

    private int[] with(int which, int v) {
        int[] numbers = taken.clone();
        numbers[which] = v;
        return numbers;
    }

    private String told(int[] numbers) {
        StringBuilder told = new StringBuilder(name).append('(');
        for (int i = 0; i < numbers.length; i++) {
            told.append(i == 0 ? "" : ", ").append(numbers[i]);
        }
        return told.append(')').toString();
    }
}
