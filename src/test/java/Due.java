import java.util.List;

/** What the tests share: it counts the answers that aren't as due, and puts pieces and texts together. */
final class Due {
    static final int[] BEYOND = {Integer.MIN_VALUE, -1000, -2, -1, 1000, Integer.MAX_VALUE};

    private int wrong;
    private int asked;

    void is(String call, int got, int want) {
        asked++;
        if (got != want) {
            wrong++;
            System.out.println(call + " answered " + got + ", due is " + want);
        }
    }

    void isNot(String call, int got, int refusal) {
        asked++;
        if (got == refusal) {
            wrong++;
            System.out.println(call + " answered " + got + ", which is not due");
        }
    }

    void same(String what, List<Integer> got, List<Integer> want) {
        asked++;
        if (!got.equals(want)) {
            wrong++;
            System.out.println(what + " is " + got + ", due is " + want);
        }
    }

    void end() {
        System.out.println(asked + " answers, " + wrong + " not as due");
        if (wrong != 0) {
            System.exit(1);
        }
    }

    /** Puts signs behind the draft. */
    static void signs(GlossHouse x, int... signs) {
        for (int sign : signs) {
            x.sign(sign);
        }
    }

    /** One more piece of the next source. */
    static int piece(GlossHouse x, int kind, int... signs) {
        signs(x, signs);
        return x.piece(kind);
    }

    /** A house whose source has plain pieces with these signs. */
    static GlossHouse house(int[]... pieces) {
        GlossHouse x = new GlossHouse();
        for (int[] signs : pieces) {
            piece(x, 0, signs);
        }
        x.turn();
        return x;
    }

    static int[] row(int... signs) {
        return signs;
    }

    static int write(GlossHouse x, int piece, int tongue, int hand, int... signs) {
        x.scrap();
        signs(x, signs);
        return x.write(piece, tongue, hand);
    }

    /** A text of hand 0 that hand 1 reviews. */
    static int reviewed(GlossHouse x, int piece, int tongue, int... signs) {
        write(x, piece, tongue, 0, signs);
        return x.review(piece, tongue, 1);
    }

    /** Two hands that know every tongue. */
    static void twoHands(GlossHouse x) {
        x.hand(7, 20, 1);
        x.hand(7, 20, 1);
    }
}
