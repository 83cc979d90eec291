/** The document's 'Terms' at their edges: each test stands under the sentence that it holds. */
public final class TermsEdgesTest {
    private static final int NUMBER = GlossHouse.NUMBER;
    private static final int FULL = GlossHouse.FULL;
    private static final int KIND = GlossHouse.KIND;
    private static final int NONE = GlossHouse.NONE;
    private static final int SIZE = GlossHouse.SIZE;

    private static final Due due = new Due();

    public static void main(String[] args) {
        anObjectHas512Calls();
        signs();
        sortsOfSigns();
        draft();
        piecesOfTheSource();
        piecesAreNumberedByPlace();
        sizeOfAPiece();
        kinds();
        farOfLikeRows();
        farOfUnlikeRows();
        matchGivesNoneToTwo();
        matchCostsOfThoseWithNone();
        matchCostsLeast();
        matchOfSeveral();
        matchOfNoneBehindAll();
        matchAtTheMost();
        matchAfterOthers();
        textsTakenOver();
        textsOfThoseGivenNone();
        nextOneIsEmptyThen();
        tonguesOfHands();
        handsAreNumbered();
        hoursAtTheEnds();
        ratesAtTheEnds();
        sizeOfAText();
        states();
        termsAtOnce();
        faultsOfHoles();
        faultsOfTerms();
        faultsOfLimits();
        faultsInOrder();
        memoryIsNumbered();
        memoryAtTheMost();
        memoryGoesRound();
        nearestOfATongue();
        nearestOfSeveral();
        needs();
        efforts();
        plansKeepToHours();
        plansGiveTheMost();
        plansCostLeast();
        plansOfSeveral();
        plansOfNoneBehindAll();
        plansOfHandsThatKnow();
        releases();
        due.end();
    }

    // ---- the public face

    /** "An object is used for at most 512 calls": the last of these is as good as the first. */
    private static void anObjectHas512Calls() {
        GlossHouse x = new GlossHouse();
        for (int calls = 0; calls < 510; calls += 3) {
            int word = calls / 3 % 100;
            due.is("sign", x.sign(word), 1);
            due.is("piece", x.piece(0), 0);
            due.is("turn", x.turn(), 1);
        }
        due.is("call 511", x.story(0), 2);
        due.is("call 512", x.of(0, 10), 169 % 100);
    }

    // ---- 1

    /** "SIGNS are WORDS 0 to 99, HOLES 100 to 103, and OWN WORDS of tongues, 200 to 299." */
    private static void signs() {
        for (int from = -10; from < 310; from += 100) {
            GlossHouse x = new GlossHouse();
            for (int sign = from; sign < from + 100; sign++) {
                boolean some = sign >= 0 && sign <= 103 || sign >= 200 && sign <= 299;
                due.is("sign(" + sign + ")", x.sign(sign), some ? 1 : NUMBER);
                x.scrap();
            }
        }
    }

    /** "WORDS 0 to 99, HOLES 100 to 103, and OWN WORDS": which sort the first and the last of each is. */
    private static void sortsOfSigns() {
        int[][] sorts = {{0, 99}, {100, 103}, {200, 299}};
        for (int sort = 0; sort < 3; sort++) {
            for (int sign : sorts[sort]) {
                GlossHouse x = Due.house(Due.row(1));
                x.hand(7, 0, 1);
                due.is("a piece of " + sign, Due.piece(x, 0, sign), sort == 2 ? KIND : 0);
                due.is("a text of " + sign, Due.write(x, 0, 0, 0, sign), sort == 0 ? KIND : 1);
                due.is("a term of " + sign, x.term(sign, 0, 200), sort == 0 ? 1 : NUMBER);
                due.is("a term's own word " + sign, x.term(0, 1, sign), sort == 2 ? 1 : NUMBER);
            }
        }
    }

    /** "THE DRAFT is a row of at most 10 SIGNS." */
    private static void draft() {
        GlossHouse x = Due.house(Due.row(1));
        x.hand(7, 0, 1);
        for (int i = 0; i < 10; i++) {
            due.is("sign " + i, x.sign(200 + i), i + 1);
        }
        due.is("one more", x.sign(210), FULL);
        due.is("its size", x.many(2), 10);
        due.is("its row", x.write(0, 0, 0), 10);
        for (int i = 0; i < 10; i++) {
            due.is("its sign " + i, x.text(0, 0, 10 + i), 200 + i);
        }
        due.is("it begins anew", x.sign(1), 1);
    }

    /** "THE SOURCE is a row of PIECES, 8 at most .. so is THE NEXT one". */
    private static void piecesOfTheSource() {
        GlossHouse x = new GlossHouse();
        for (int turn = 0; turn < 3; turn++) {
            for (int p = 0; p < 8; p++) {
                due.is("piece " + p, Due.piece(x, 0, p), p);
            }
            due.is("a ninth", Due.piece(x, 0, 8), FULL);
            due.is("the next one has eight", x.many(1), 8);
            due.is("turn()", x.turn(), turn == 0 ? 8 : 0);
            due.is("the source has eight", x.many(0), 8);
            due.is("the next one none", x.many(1), 0);
            x.scrap();
        }
    }

    /** "Numbered by their places from 0 on". */
    private static void piecesAreNumberedByPlace() {
        GlossHouse x = new GlossHouse();
        due.is("of(0) without pieces", x.of(0, 0), NUMBER);
        for (int p = 0; p < 8; p++) {
            Due.piece(x, p % 3, 90 + p);
        }
        x.turn();
        for (int p = 0; p < 8; p++) {
            due.is("the sign of " + p, x.of(p, 10), 90 + p);
            due.is("the kind of " + p, x.of(p, 0), p % 3);
        }
        due.is("of(-1)", x.of(-1, 0), NUMBER);
        due.is("of(8)", x.of(8, 0), NUMBER);
    }

    /** "A PIECE is a row of 1 to 8 WORDS and HOLES". */
    private static void sizeOfAPiece() {
        for (int size = 0; size <= 10; size++) {
            GlossHouse x = new GlossHouse();
            for (int i = 0; i < size; i++) {
                x.sign(i % 2 == 0 ? 99 : 103);
            }
            boolean some = size >= 1 && size <= 8;
            due.is("a piece of " + size, x.piece(0), some ? 0 : SIZE);
            due.is("the draft then", x.many(2), some ? 0 : size);
            due.is("turn() then", x.turn(), some ? size : NONE);
            due.is("its size", x.of(0, 1), some ? size : NUMBER);
        }
    }

    /** "And has a KIND: 0 PLAIN, 1 HELD, 2 SHORT under PLAIN." */
    private static void kinds() {
        int[] kinds = {Integer.MIN_VALUE, -1, 0, 1, 2, 3, Integer.MAX_VALUE};
        for (int kind : kinds) {
            GlossHouse x = new GlossHouse();
            boolean some = kind >= 0 && kind <= 2;
            due.is("piece(" + kind + ")", Due.piece(x, kind, 1), some ? 0 : NUMBER);
            x.turn();
            due.is("its kind", x.of(0, 0), some ? kind : NUMBER);
        }
    }

    private static void far(int far, int[] one, int[] two) {
        GlossHouse x = Due.house(one, two);
        due.is("far of two", x.far(0, 1), far);
        due.is("far of two, the other way round", x.far(1, 0), far);
        due.is("far of one", x.far(0, 0) + x.far(1, 1), 0);
    }

    /** "FAR of two rows: the least number of SIGNS that are put in, taken out, or changed": 0, 1 and 2. */
    private static void farOfLikeRows() {
        int[] row = {1, 2, 3, 4, 5, 6, 7};
        far(0, row, row);
        far(1, row, Due.row(9, 1, 2, 3, 4, 5, 6, 7));
        far(1, row, Due.row(1, 2, 3, 9, 4, 5, 6, 7));
        far(1, row, Due.row(1, 2, 3, 4, 5, 6, 7, 9));
        far(1, row, Due.row(2, 3, 4, 5, 6, 7));
        far(1, row, Due.row(1, 2, 3, 4, 5, 6));
        far(1, row, Due.row(9, 2, 3, 4, 5, 6, 7));
        far(1, row, Due.row(1, 2, 3, 4, 5, 6, 9));
        far(2, row, Due.row(2, 1, 3, 4, 5, 6, 7));
        far(2, row, Due.row(2, 3, 4, 5, 6, 7, 1));
        far(2, row, Due.row(9, 1, 2, 3, 4, 5, 6));
        far(1, Due.row(1, 1, 1), Due.row(1, 1));
        far(1, Due.row(100), Due.row(103));
    }

    /** "FAR of two rows": up to 8, when no SIGN is shared. */
    private static void farOfUnlikeRows() {
        int[] eight = {1, 2, 3, 4, 5, 6, 7, 8};
        far(8, eight, Due.row(11, 12, 13, 14, 15, 16, 17, 18));
        far(8, eight, Due.row(9));
        far(7, eight, Due.row(1));
        far(7, eight, Due.row(8));
        far(1, Due.row(1), Due.row(2));
        far(8, eight, Due.row(8, 7, 6, 5, 4, 3, 2, 1));
        far(2, eight, Due.row(2, 3, 4, 5, 6, 7, 8, 1));
        far(4, eight, Due.row(5, 6, 7, 8));
        far(4, Due.row(1, 2, 1, 2, 1, 2, 1, 2), Due.row(1, 1, 1, 1, 1, 1, 1, 1));
    }

    private static void from(GlossHouse x, int... places) {
        for (int p = 0; p < places.length; p++) {
            due.is("from(" + p + ")", x.from(p), places[p]);
        }
    }

    /** "A MATCH gives some PIECES of THE NEXT one a PIECE of THE SOURCE each, none to two". */
    private static void matchGivesNoneToTwo() {
        GlossHouse x = Due.house(Due.row(1, 2, 3));
        for (int p = 0; p < 8; p++) {
            Due.piece(x, 0, 1, 2, 3);
        }
        due.is("one for eight", x.turn(), 21);
        from(x, 0, NONE, NONE, NONE, NONE, NONE, NONE, NONE);
        Due.piece(x, 0, 1, 2, 3);
        due.is("eight for one", x.turn(), 0);
        from(x, 0);
    }

    /** "For each of THE NEXT one that has none how many SIGNS it has." */
    private static void matchCostsOfThoseWithNone() {
        GlossHouse x = new GlossHouse();
        for (int size = 1; size <= 8; size++) {
            for (int i = 0; i < size; i++) {
                x.sign(size);
            }
            x.piece(0);
        }
        due.is("from nothing", x.turn(), 36);
        from(x, NONE, NONE, NONE, NONE, NONE, NONE, NONE, NONE);
        GlossHouse y = Due.house(Due.row(1));
        Due.piece(y, 0, 1);
        due.is("those of the source that nobody has cost nothing", y.turn(), 0);
        GlossHouse z = Due.house(Due.row(1, 2), Due.row(3, 4, 5, 6, 7, 8, 9, 10));
        Due.piece(z, 0, 1, 2);
        due.is("however long they are", z.turn(), 0);
    }

    /** "THE MATCH costs least", which goes ahead of lesser places. */
    private static void matchCostsLeast() {
        GlossHouse x = Due.house(Due.row(1, 2, 9), Due.row(1, 2, 3));
        Due.piece(x, 0, 1, 2, 3);
        due.is("the second fits better", x.turn(), 0);
        from(x, 1);
        GlossHouse y = Due.house(Due.row(1, 2, 3), Due.row(1, 2, 4));
        Due.piece(y, 0, 1, 2, 3);
        Due.piece(y, 0, 1, 8, 3);
        due.is("one that fits goes to the one it fits", y.turn(), 2);
        from(y, 0, 1);
        GlossHouse z = Due.house(Due.row(1, 2, 3));
        Due.piece(z, 0, 1, 2, 9);
        Due.piece(z, 0, 1, 2, 3);
        due.is("though another came first", z.turn(), 3);
        from(z, NONE, 0);
    }

    /** "Of several that in which the first PIECE .. for which they are unlike has the lesser one". */
    private static void matchOfSeveral() {
        GlossHouse x = Due.house(Due.row(1, 2), Due.row(1, 2), Due.row(1, 2));
        Due.piece(x, 0, 1, 2);
        due.is("one of three", x.turn(), 0);
        from(x, 0);
        GlossHouse y = Due.house(Due.row(1, 3), Due.row(1, 4));
        Due.piece(y, 0, 1, 5);
        Due.piece(y, 0, 1, 6);
        due.is("either way as dear", y.turn(), 2);
        from(y, 0, 1);
        GlossHouse z = Due.house(Due.row(1, 2, 3), Due.row(4, 5), Due.row(4, 6), Due.row(1, 2, 3));
        Due.piece(z, 0, 4, 7);
        Due.piece(z, 0, 1, 2, 3);
        Due.piece(z, 0, 4, 8);
        due.is("the first ones alike, later ones unlike", z.turn(), 2);
        from(z, 1, 0, 2);
    }

    /** "(None stands behind all)": given at the cost of none, but not above it. */
    private static void matchOfNoneBehindAll() {
        GlossHouse x = Due.house(Due.row(3, 4));
        Due.piece(x, 0, 1, 2);
        due.is("as dear as none", x.turn(), 2);
        from(x, 0);
        GlossHouse y = Due.house(Due.row(3, 4, 5));
        Due.piece(y, 0, 1, 2);
        due.is("dearer than none", y.turn(), 2);
        from(y, NONE);
        GlossHouse z = Due.house(Due.row(3));
        Due.piece(z, 0, 1, 2);
        Due.piece(z, 0, 5, 6);
        due.is("the first has it, the second none", z.turn(), 4);
        from(z, 0, NONE);
        GlossHouse last = Due.house(Due.row(1), Due.row(2), Due.row(3), Due.row(4), Due.row(5), Due.row(6),
                Due.row(7, 8, 9, 10, 11), Due.row(20, 21));
        for (int p = 0; p < 7; p++) {
            Due.piece(last, 0, p + 1);
        }
        Due.piece(last, 0, 40, 41);
        due.is("the last place stands ahead of none", last.turn(), 2 + 1);
        from(last, 0, 1, 2, 3, 4, 5, NONE, 7);
    }

    /** "THE MATCH costs least": 8 PIECES of 8 SIGNS, all alike, and none alike. */
    private static void matchAtTheMost() {
        GlossHouse x = new GlossHouse();
        for (int p = 0; p < 8; p++) {
            Due.piece(x, 0, 1, 1, 1, 1, 1, 1, 1, 1);
        }
        due.is("the greatest cost", x.turn(), 64);
        for (int p = 0; p < 8; p++) {
            Due.piece(x, 0, 1, 1, 1, 1, 1, 1, 1, 1);
        }
        due.is("the least cost", x.turn(), 0);
        from(x, 0, 1, 2, 3, 4, 5, 6, 7);
        for (int p = 0; p < 8; p++) {
            Due.piece(x, 0, 2, 2, 2, 2, 2, 2, 2, 2);
        }
        due.is("the greatest again", x.turn(), 64);
        from(x, 0, 1, 2, 3, 4, 5, 6, 7);
    }

    /** "THE MATCH costs least": those before it are nothing to it. */
    private static void matchAfterOthers() {
        GlossHouse x = Due.house(Due.row(1, 1, 1, 1, 1, 1, 1, 1));
        Due.piece(x, 0, 2, 2, 2, 2, 2, 2, 2, 2);
        due.is("a dear one", x.turn(), 8);
        Due.piece(x, 0, 9);
        Due.piece(x, 0, 2, 2, 2, 2, 2, 2, 2, 2);
        due.is("a cheap one, the first has none", x.turn(), 1);
        from(x, NONE, 0);
        Due.piece(x, 0, 30, 31);
        Due.piece(x, 0, 9);
        Due.piece(x, 0, 2, 2, 2, 2, 2, 2, 2, 2);
        due.is("and once more", x.turn(), 2);
        from(x, NONE, 0, 1);
        GlossHouse y = new GlossHouse();
        y.keep();
        Due.piece(y, 0, 1, 2, 3);
        due.is("from nothing", y.turn(), 3);
        y.back();
        Due.piece(y, 0, 4, 5);
        due.is("from nothing again", y.turn(), 2);
        from(y, NONE);
    }

    /** A house with one piece, 1 2, whose text in tongue 0 is in that state. */
    private static GlossHouse inState(int state) {
        GlossHouse x = Due.house(state == 3 ? Due.row(1, 9) : Due.row(1, 2));
        Due.twoHands(x);
        if (state > 0) {
            Due.write(x, 0, 0, 0, 201, 202);
        }
        if (state == 2) {
            x.review(0, 0, 1);
        }
        if (state == 3) {
            Due.piece(x, 0, 1, 2);
            x.turn();
        }
        due.is("made in state " + state, x.text(0, 0, 0), state);
        return x;
    }

    /**
     * "Each PIECE takes over the TEXTS of the one that it was given, if it isn't HELD; if FAR of both is
     * above 0, those that are DRAFTED or REVIEWED are DOUBTFUL then."
     */
    private static void textsTakenOver() {
        int[] changed = {0, 3, 3, 3};
        for (int state = 0; state <= 3; state++) {
            for (int kind = 0; kind <= 2; kind++) {
                for (int far = 0; far <= 1; far++) {
                    GlossHouse x = inState(state);
                    Due.piece(x, kind, 1, 2 + far);
                    due.is("turn()", x.turn(), far);
                    int then = kind == 1 ? 0 : far == 0 ? state : changed[state];
                    String name = "state " + state + ", kind " + kind + ", far " + far;
                    due.is(name, x.text(0, 0, 0), then);
                    due.is(name + ": hand", x.text(0, 0, 1), then == 0 ? NONE : 0);
                    due.is(name + ": size", x.text(0, 0, 2), then == 0 ? 0 : 2);
                    due.is(name + ": sign", x.text(0, 0, 11), then == 0 ? NUMBER : 202);
                    due.is(name + ": another tongue", x.text(0, 1, 0), 0);
                }
            }
        }
    }

    /** "Takes over the TEXTS of the one that it was given": with none there are none. */
    private static void textsOfThoseGivenNone() {
        GlossHouse x = inState(2);
        Due.piece(x, 0, 1, 2);
        Due.piece(x, 0, 1, 2);
        x.turn();
        due.is("given", x.text(0, 0, 0), 2);
        due.is("given none", x.text(1, 0, 0), 0);
        due.is("one text", x.many(7), 1);
        Due.piece(x, 0, 8);
        x.turn();
        due.is("none of it is left", x.many(6) + x.many(7) + x.many(8), 0);
        due.is("but in the memory", x.many(5), 1);
    }

    /** "Then THE NEXT one becomes THE SOURCE; .. THE NEXT one is empty." */
    private static void nextOneIsEmptyThen() {
        GlossHouse x = inState(2);
        Due.piece(x, 1, 5, 6);
        x.turn();
        due.is("one piece", x.many(0), 1);
        due.is("its kind", x.of(0, 0), 1);
        due.is("its sign", x.of(0, 11), 6);
        due.is("the next one", x.many(1), 0);
        due.is("its first place", Due.piece(x, 0, 7), 0);
        due.is("the source stays", x.of(0, 10), 5);
    }

    // ---- 2

    /** "Each knows some TONGUES (bits, 1 to 7; TONGUE t is 2 to the power of t)". */
    private static void tonguesOfHands() {
        int[] power = {1, 2, 4};
        for (int tongues = 1; tongues <= 7; tongues++) {
            for (int t = 0; t < 3; t++) {
                GlossHouse x = Due.house(Due.row(1));
                x.hand(tongues, 20, 1);
                boolean knows = tongues / power[t] % 2 == 1;
                String name = "tongues " + tongues + ", tongue " + t;
                due.is(name + ": plan", x.plan(t, 0), knows ? 0 : NONE);
                due.is(name + ": reuse", x.reuse(0, t, 0), knows ? NONE : KIND);
                due.is(name + ": write", Due.write(x, 0, t, 0, 200), knows ? 1 : KIND);
                x.hand(7 - tongues == 0 ? 7 : 7 - tongues, 20, 1);
                due.is(name + ": review", x.review(0, t, 0), knows ? GlossHouse.OWN : GlossHouse.STATE);
            }
        }
        GlossHouse y = new GlossHouse();
        due.is("no tongues", y.hand(0, 0, 1), NUMBER);
        due.is("a fourth tongue", y.hand(8, 0, 1), NUMBER);
        due.is("a fourth and the first", y.hand(9, 0, 1), NUMBER);
    }

    /** "HANDS are numbered from 0 as they come, 5 at most". */
    private static void handsAreNumbered() {
        GlossHouse x = new GlossHouse();
        for (int hand = 0; hand < 5; hand++) {
            due.is("not there yet", x.hours(hand, 1), NUMBER);
            due.is("hand " + hand, x.hand(1 + hand, 10 + hand, 1), hand);
            due.is("many(3)", x.many(3), hand + 1);
        }
        due.is("a sixth", x.hand(1, 0, 1), FULL);
        for (int hand = 0; hand < 5; hand++) {
            due.is("hours of " + hand, x.hours(hand, 0), 10 + hand);
        }
        due.is("hours of a sixth", x.hours(5, 0), NUMBER);
    }

    /** "HOURS (0 to 20)": at first and later. */
    private static void hoursAtTheEnds() {
        for (int hours : new int[] {Integer.MIN_VALUE, -1, 0, 20, 21, Integer.MAX_VALUE}) {
            boolean some = hours == 0 || hours == 20;
            GlossHouse x = new GlossHouse();
            due.is("a hand of " + hours, x.hand(1, hours, 1), some ? 0 : NUMBER);
            GlossHouse y = new GlossHouse();
            y.hand(1, 7, 1);
            due.is("hours(0, " + hours + ")", y.hours(0, hours), some ? 7 : NUMBER);
            due.is("then", y.hours(0, 1), some ? hours : 7);
        }
    }

    /** "And a RATE (1 to 9)": what the least and the greatest cost. */
    private static void ratesAtTheEnds() {
        for (int rate : new int[] {Integer.MIN_VALUE, 0, 1, 9, 10, Integer.MAX_VALUE}) {
            boolean some = rate == 1 || rate == 9;
            GlossHouse x = Due.house(Due.row(1, 2, 3, 4, 5, 6, 7, 8));
            due.is("a hand of rate " + rate, x.hand(1, 8, rate), some ? 0 : NUMBER);
            due.is("what it costs", x.planned(0, 1), some ? 8 * rate : 0);
        }
    }

    /** "A TEXT .. : a row of 1 to 10 OWN WORDS and HOLES, the HAND that wrote it". */
    private static void sizeOfAText() {
        for (int size = 0; size <= 10; size++) {
            GlossHouse x = Due.house(Due.row(1));
            x.hand(7, 0, 1);
            for (int i = 0; i < size; i++) {
                x.sign(i % 2 == 0 ? 299 : 103);
            }
            due.is("a text of " + size, x.write(0, 0, 0), size == 0 ? SIZE : size);
            due.is("its size", x.text(0, 0, 2), size);
            due.is("its hand", x.text(0, 0, 1), size == 0 ? NONE : 0);
            due.is("its last sign", x.text(0, 0, 9 + size), size == 0 ? NUMBER : size % 2 == 1 ? 299 : 103);
            due.is("one behind it", x.text(0, 0, 10 + size), NUMBER);
        }
    }

    /** "A STATE: 0 there is none, 1 DRAFTED, 2 REVIEWED, 3 DOUBTFUL." */
    private static void states() {
        for (int state = 0; state <= 3; state++) {
            GlossHouse x = inState(state);
            for (int what = 6; what <= 8; what++) {
                due.is("many(" + what + ") of state " + state, x.many(what), what - 5 == state ? 1 : 0);
            }
            due.is("released in state " + state, x.release(0, 0), state == 2 ? 201 : 1);
        }
    }

    /** "TERMS: for a WORD and a TONGUE an OWN WORD, 10 at most at once." */
    private static void termsAtOnce() {
        GlossHouse x = new GlossHouse();
        for (int i = 0; i < 10; i++) {
            due.is("term " + i, x.term(99 - i / 3, i % 3, 200), i + 1);
        }
        due.is("an eleventh of a word that has some", x.term(96, 1, 200), FULL);
        due.is("an eleventh of another word", x.term(0, 0, 200), FULL);
        due.is("in place of the tenth", x.term(96, 0, 299), 10);
        due.is("in place of the first", x.term(99, 0, 299), 10);
        due.is("one is no more", x.forget(99, 0), 9);
        due.is("a tenth again", x.term(0, 0, 200), 10);
        due.is("the one that went is an eleventh", x.term(99, 0, 200), FULL);
        due.is("many(4)", x.many(4), 10);
    }

    private static void fault(int fault, GlossHouse x, int... text) {
        due.is("write()", Due.write(x, 0, 0, 0, text), text.length);
        due.is("fault of " + java.util.Arrays.toString(text), x.fault(0, 0), fault);
        due.is("review tells it", x.review(0, 0, 1), fault == 0 ? x.many(5) : GlossHouse.FAULT - fault);
        due.is("its state", x.text(0, 0, 0), fault == 0 ? 2 : 1);
    }

    private static GlossHouse houseOf(int kind, int... signs) {
        GlossHouse x = new GlossHouse();
        Due.piece(x, kind, signs);
        x.turn();
        Due.twoHands(x);
        return x;
    }

    /** "1 some HOLE isn't as often in it as in its PIECE": each HOLE, too few and too many. */
    private static void faultsOfHoles() {
        for (int hole = 100; hole <= 103; hole++) {
            GlossHouse x = houseOf(0, hole, 1, hole);
            fault(1, x, 200);
            fault(1, x, 200, hole);
            fault(0, x, hole, 200, hole);
            fault(0, x, hole, hole);
            fault(1, x, hole, hole, hole);
            int other = hole == 103 ? 100 : hole + 1;
            fault(1, x, hole, hole, other);
            fault(1, x, hole, other);
            GlossHouse y = houseOf(0, 1);
            fault(1, y, hole);
            fault(0, y, 200);
        }
        fault(0, houseOf(0, 100, 101, 102, 103, 100, 101, 102, 103), 103, 103, 102, 102, 101, 101, 100, 100);
    }

    /** "2 its PIECE has a WORD with a TERM for that TONGUE, whose OWN WORD it hasn't". */
    private static void faultsOfTerms() {
        GlossHouse x = houseOf(0, 0, 50, 99);
        fault(0, x, 201);
        x.term(0, 0, 200);
        fault(2, x, 201);
        fault(0, x, 201, 200);
        x.term(99, 0, 299);
        fault(2, x, 200);
        fault(2, x, 299);
        fault(0, x, 299, 200);
        x.term(50, 1, 250);
        x.term(50, 2, 251);
        x.term(51, 0, 252);
        fault(0, x, 299, 200);
        x.forget(0, 0);
        fault(0, x, 299);
    }

    /** "3 its PIECE is SHORT, and it has more than LIMIT SIGNS (1 to 10; 6 at first)". */
    private static void faultsOfLimits() {
        int[] all = {200, 201, 202, 203, 204, 205, 206, 207, 208, 209};
        fault(0, houseOf(2, 1), 200, 201, 202, 203, 204, 205);
        fault(3, houseOf(2, 1), 200, 201, 202, 203, 204, 205, 206);
        for (int limit = 1; limit <= 10; limit++) {
            for (int size = 1; size <= 10; size++) {
                int[] text = java.util.Arrays.copyOf(all, size);
                GlossHouse x = houseOf(2, 1);
                x.limit(limit);
                fault(size > limit ? 3 : 0, x, text);
            }
        }
        GlossHouse plain = houseOf(0, 1);
        plain.limit(1);
        fault(0, plain, all);
    }

    /** "FAULT of a TEXT, the first of these .. 0 none": each of the eight cases. */
    private static void faultsInOrder() {
        GlossHouse x = houseOf(2, 1, 100);
        x.term(1, 0, 250);
        x.limit(2);
        fault(0, x, 100, 250);
        fault(1, x, 250);
        fault(2, x, 100);
        fault(3, x, 100, 250, 200);
        fault(1, x, 200);
        fault(1, x, 250, 201, 202);
        fault(2, x, 100, 200, 201);
        fault(1, x, 200, 201, 202);
    }

    // ---- 3

    /** "THE MEMORY keeps what was reviewed: .. numbered from 0, the eldest first". */
    private static void memoryIsNumbered() {
        GlossHouse x = houseOf(0, 1, 2);
        due.is("none", x.memory(0, 0), NUMBER);
        for (int k = 0; k < 3; k++) {
            due.is("review " + k, Due.reviewed(x, 0, k, 210 + k), k + 1);
        }
        for (int k = 0; k < 3; k++) {
            due.is("its tongue", x.memory(k, 0), k);
            due.is("its text", x.memory(k, 20), 210 + k);
        }
        due.is("no fourth", x.memory(3, 0), NUMBER);
        Due.write(x, 0, 0, 0, 220);
        due.is("a draft is not remembered", x.many(5), 3);
    }

    /** "20 at most: when one more comes the eldest goes." */
    private static void memoryAtTheMost() {
        GlossHouse x = houseOf(0, 1);
        for (int k = 0; k < 19; k++) {
            Due.reviewed(x, 0, 0, 200 + k);
        }
        due.is("nineteen", x.many(5), 19);
        due.is("number 19 isn't yet", x.memory(19, 0), NUMBER);
        due.is("the twentieth", Due.reviewed(x, 0, 0, 219), 20);
        due.is("the eldest stays", x.memory(0, 20), 200);
        due.is("the youngest", x.memory(19, 20), 219);
        due.is("the same again", Due.reviewed(x, 0, 0, 219), 20);
        due.is("no one goes for it", x.memory(0, 20), 200);
        due.is("one more", Due.reviewed(x, 0, 0, 220), 20);
        for (int k = 0; k < 20; k++) {
            due.is("number " + k, x.memory(k, 20), 201 + k);
        }
        due.is("no number 20", x.memory(20, 0), NUMBER);
    }

    /** "When one more comes the eldest goes": time and again. */
    private static void memoryGoesRound() {
        GlossHouse x = houseOf(0, 1);
        for (int k = 0; k < 95; k++) {
            due.is("review " + k, Due.reviewed(x, 0, 0, 200 + k), Math.min(20, k + 1));
        }
        for (int k = 0; k < 20; k++) {
            due.is("number " + k, x.memory(k, 20), 275 + k);
        }
        due.is("the nearest is the youngest", x.nearest(0, 0, 0), 19);
        due.is("one that went comes anew", Due.reviewed(x, 0, 0, 200), 20);
        due.is("as the youngest", x.memory(19, 20), 200);
    }

    /** "THE NEAREST for a PIECE and a TONGUE: of those of that TONGUE". */
    private static void nearestOfATongue() {
        GlossHouse x = Due.house(Due.row(1, 2, 3), Due.row(7, 8, 9));
        Due.twoHands(x);
        Due.reviewed(x, 0, 0, 210);
        Due.reviewed(x, 1, 1, 211);
        due.is("one of its tongue, however far", x.nearest(0, 1, 0), 1);
        due.is("how far", x.nearest(0, 1, 1), 3);
        due.is("none of another tongue, however near", x.nearest(0, 2, 0), NONE);
        due.is("the one of its own", x.nearest(0, 0, 1), 0);
    }

    /** "That one whose PIECE's SIGNS are least FAR from the PIECE's, of several the youngest." */
    private static void nearestOfSeveral() {
        GlossHouse x = Due.house(Due.row(1, 2, 3), Due.row(1, 2, 4), Due.row(1, 2, 5), Due.row(8, 9, 5));
        Due.twoHands(x);
        Due.reviewed(x, 0, 0, 210);
        due.is("the only one", x.nearest(3, 0, 1), 3);
        Due.reviewed(x, 2, 0, 211);
        due.is("a nearer one", x.nearest(3, 0, 0), 1);
        Due.reviewed(x, 1, 0, 212);
        due.is("a younger one that is farther", x.nearest(3, 0, 0), 1);
        due.is("the first's is its own", x.nearest(0, 0, 0), 0);
        Due.reviewed(x, 0, 0, 213);
        due.is("until a younger one is as near", x.nearest(0, 0, 0), 3);
        due.is("as far from all but one", x.nearest(1, 0, 0), 2);
        Due.piece(x, 0, 1, 2, 6);
        x.turn();
        due.is("as far from all", x.nearest(0, 0, 0), 3);
        due.is("how far", x.nearest(0, 0, 1), 1);
        GlossHouse y = Due.house(Due.row(1, 2, 3, 4, 5, 6, 7, 8), Due.row(11, 12, 13, 14, 15, 16, 17, 18));
        Due.twoHands(y);
        Due.reviewed(y, 0, 0, 210);
        due.is("the farthest is one too", y.nearest(1, 0, 1), 8);
    }

    // ---- 4

    /** "A PIECE NEEDS work in a TONGUE if it isn't HELD, and has no REVIEWED TEXT there." */
    private static void needs() {
        for (int state = 0; state <= 3; state++) {
            GlossHouse x = inState(state);
            due.is("state " + state, x.planned(0, 2), state == 2 ? 0 : 1);
            due.is("state " + state + " in another tongue", x.planned(1, 2), 1);
        }
        for (int kind = 0; kind <= 2; kind++) {
            due.is("kind " + kind, houseOf(kind, 1).planned(0, 2), kind == 1 ? 0 : 1);
        }
    }

    /** "EFFORT: 1, if THE NEAREST is 0 FAR from it, 2, if 1 or 2; else .. how many SIGNS the PIECE has." */
    private static void efforts() {
        int[][] rows = {{1, 2, 3, 4, 5, 6, 7, 8}, {1, 2, 3, 4, 5, 6, 7, 9}, {1, 2, 3, 4, 5, 6, 9, 9},
            {1, 2, 3, 4, 5, 9, 9, 9}, {9, 9, 9, 9, 9, 9, 9, 9}, {9}};
        int[] efforts = {1, 2, 2, 8, 8, 1};
        GlossHouse x = Due.house(rows);
        Due.twoHands(x);
        for (int p = 0; p < rows.length; p++) {
            due.is("without the nearest: " + p, x.effort(p, 0), rows[p].length);
        }
        Due.reviewed(x, 0, 0, 200);
        Due.write(x, 0, 0, 0, 200);
        for (int p = 0; p < rows.length; p++) {
            due.is("with the nearest: " + p, x.effort(p, 0), efforts[p]);
            due.is("in another tongue: " + p, x.effort(p, 1), rows[p].length);
        }
        GlossHouse y = Due.house(Due.row(1), Due.row(2), Due.row(3, 4));
        Due.twoHands(y);
        Due.reviewed(y, 0, 0, 200);
        due.is("2 though it has one sign", y.effort(1, 0), 2);
        due.is("2 of two", y.effort(2, 0), 2);
    }

    private static void plan(GlossHouse x, int... hands) {
        for (int p = 0; p < hands.length; p++) {
            due.is("plan(0, " + p + ")", x.plan(0, p), hands[p]);
        }
    }

    /** "No HAND more EFFORTS together than its HOURS": as many, and one more. */
    private static void plansKeepToHours() {
        GlossHouse x = Due.house(Due.row(1, 1, 1, 1, 1, 1, 1, 1), Due.row(2, 2, 2, 2, 2, 2, 2, 2),
                Due.row(3, 3, 3, 3));
        x.hand(1, 20, 9);
        plan(x, 0, 0, 0);
        due.is("what 20 hours cost", x.planned(0, 1), 180);
        x.hours(0, 19);
        plan(x, 0, NONE, 0);
        x.hours(0, 12);
        plan(x, 0, NONE, 0);
        x.hours(0, 11);
        plan(x, NONE, NONE, 0);
        x.hours(0, 4);
        plan(x, NONE, NONE, 0);
        x.hours(0, 3);
        plan(x, NONE, NONE, NONE);
        x.hours(0, 0);
        plan(x, NONE, NONE, NONE);
        GlossHouse y = Due.house(Due.row(1, 1, 1, 1, 1, 1, 1, 1), Due.row(2, 2, 2, 2, 2, 2, 2, 2),
                Due.row(3, 3, 3, 3, 3));
        y.hand(1, 20, 1);
        plan(y, 0, NONE, 0);
        due.is("two of three", y.planned(0, 0), 2);
    }

    /** "THE PLAN gives the most PIECES", which goes ahead of what it COSTS. */
    private static void plansGiveTheMost() {
        GlossHouse x = Due.house(Due.row(1, 2, 3), Due.row(4), Due.row(5));
        x.hand(1, 3, 1);
        plan(x, NONE, 0, 0);
        due.is("two at the cost of two", x.planned(0, 1), 2);
        x.hand(1, 20, 9);
        plan(x, 0, 1, 1);
        due.is("three, though two are dear", x.planned(0, 1), 21);
        GlossHouse y = new GlossHouse();
        for (int p = 0; p < 8; p++) {
            Due.piece(y, 0, p);
        }
        y.turn();
        for (int hand = 0; hand < 5; hand++) {
            y.hand(1, hand < 3 ? 2 : 1, 9);
        }
        plan(y, 0, 0, 1, 1, 2, 2, 3, 4);
        due.is("eight of eight", y.planned(0, 0), 8);
        y.hours(4, 0);
        plan(y, 0, 0, 1, 1, 2, 2, 3, NONE);
        due.is("seven of eight", y.planned(0, 0), 7);
        due.is("eight need work", y.planned(0, 2), 8);
    }

    /** "Of several that which COSTS least", which goes ahead of lesser HANDS. */
    private static void plansCostLeast() {
        GlossHouse x = Due.house(Due.row(1, 2), Due.row(3));
        x.hand(1, 20, 2);
        x.hand(1, 20, 1);
        plan(x, 1, 1);
        due.is("the cheap one for all", x.planned(0, 1), 3);
        x.hours(1, 2);
        plan(x, 1, 0);
        due.is("the longer one for the cheap one", x.planned(0, 1), 4);
        x.hours(1, 1);
        plan(x, 0, 1);
        due.is("or the shorter one", x.planned(0, 1), 5);
        x.hours(0, 0);
        plan(x, NONE, 1);
        GlossHouse y = Due.house(Due.row(1, 2), Due.row(3));
        y.hand(1, 2, 1);
        plan(y, NONE, 0);
        due.is("of one each the cheaper", y.planned(0, 1), 1);
    }

    /** "Of several that in which the first PIECE for which they are unlike has the lesser HAND". */
    private static void plansOfSeveral() {
        GlossHouse x = Due.house(Due.row(1, 2), Due.row(3, 4), Due.row(5, 6), Due.row(7, 8));
        for (int hand = 0; hand < 5; hand++) {
            x.hand(1, 2, 3);
        }
        plan(x, 0, 1, 2, 3);
        x.hours(0, 0);
        plan(x, 1, 2, 3, 4);
        x.hours(2, 4);
        plan(x, 1, 2, 2, 3);
        x.hours(1, 8);
        plan(x, 1, 1, 1, 1);
        GlossHouse y = Due.house(Due.row(1, 2), Due.row(3), Due.row(4));
        y.hand(1, 2, 1);
        y.hand(1, 2, 1);
        plan(y, 0, 1, 1);
    }

    /** "(None stands behind all)". */
    private static void plansOfNoneBehindAll() {
        GlossHouse x = Due.house(Due.row(1, 2), Due.row(3, 4), Due.row(5, 6));
        x.hand(1, 2, 9);
        plan(x, 0, NONE, NONE);
        for (int hand = 1; hand < 5; hand++) {
            x.hand(1, hand == 4 ? 2 : 0, 9);
        }
        plan(x, 0, 4, NONE);
        x.hours(0, 1);
        plan(x, 4, NONE, NONE);
    }

    /** "A PLAN for a TONGUE gives some PIECES .. a HAND each that knows it". */
    private static void plansOfHandsThatKnow() {
        GlossHouse x = Due.house(Due.row(1), Due.row(2));
        x.hand(6, 20, 1);
        plan(x, NONE, NONE);
        due.is("none has one", x.planned(0, 0), 0);
        due.is("both need it", x.planned(0, 2), 2);
        x.hand(5, 20, 9);
        plan(x, 1, 1);
        due.is("tongue 1", x.plan(1, 0), 0);
        due.is("tongue 2, the cheap one", x.plan(2, 0), 0);
        due.is("each tongue has the hours for itself", x.planned(1, 0) + x.planned(2, 0), 4);
    }

    /** "For each PIECE, in order, the SIGNS of its TEXT there, if that is REVIEWED, else its own." */
    private static void releases() {
        int[][] released = {{1, 2}, {1, 2}, {201, 202}, {1, 2}};
        for (int state = 0; state <= 3; state++) {
            GlossHouse x = inState(state);
            for (int i = 0; i < 2; i++) {
                due.is("state " + state + ", sign " + i, x.release(0, i), released[state][i]);
            }
            due.is("state " + state + ", behind the last", x.release(0, 2), NONE);
            due.is("state " + state + ", another tongue", x.release(1, 0), 1);
        }
        GlossHouse held = houseOf(1, 9, 103);
        due.is("held: its own", held.release(2, 1), 103);
    }
}
