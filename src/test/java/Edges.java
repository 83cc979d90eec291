import java.util.List;
import java.util.function.Consumer;

/**
 * Calls at the edges, each on a house made for it: a refused call answers what is due and changes nothing,
 * which is seen by reading out a house with the call and one without it.
 */
final class Edges {
    private final Due due;
    private final String name;
    private final Consumer<GlossHouse> making;

    Edges(Due due, String name, Consumer<GlossHouse> making) {
        this.due = due;
        this.name = name;
        this.making = making;
    }

    GlossHouse made() {
        GlossHouse x = new GlossHouse();
        making.accept(x);
        return x;
    }

    void answers(int answer, String call, int... arguments) {
        due.is(name + ": " + Calls.told(call, arguments), Calls.ask(made(), call, arguments), answer);
    }

    /** A call that asks, or is refused. */
    void changesNothing(int answer, String call, int... arguments) {
        answers(answer, call, arguments);
        for (String part : Reading.PARTS.keySet()) {
            GlossHouse x = made();
            Calls.ask(x, call, arguments);
            List<Integer> got = Reading.of(part, x);
            due.same(name + ": " + part + " after " + Calls.told(call, arguments), got, Reading.of(part, made()));
        }
    }

    /**
     * The argument in that place is a number from the least to the greatest: these two are no NUMBER, but
     * the next ones on both sides are, and the ends of int.
     */
    void range(int place, int least, int greatest, String call, int... arguments) {
        for (int number : new int[] {least, greatest}) {
            int[] some = with(place, number, arguments);
            due.isNot(name + ": " + Calls.told(call, some), Calls.ask(made(), call, some), GlossHouse.NUMBER);
        }
        for (int number : beyond(least, greatest)) {
            changesNothing(GlossHouse.NUMBER, call, with(place, number, arguments));
        }
    }

    static int[] beyond(int least, int greatest) {
        return new int[] {Integer.MIN_VALUE, least - 1, greatest + 1, Integer.MAX_VALUE};
    }

    private static int[] with(int place, int number, int... arguments) {
        int[] all = arguments.clone();
        all[place] = number;
        return all;
    }
}
