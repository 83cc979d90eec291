/** Promises 11 to 20 at their edges: each test stands under the sentence that it holds. */
public final class TextsEdgesTest {
    private static final int NUMBER = GlossHouse.NUMBER;
    private static final int FULL = GlossHouse.FULL;
    private static final int KIND = GlossHouse.KIND;
    private static final int STATE = GlossHouse.STATE;
    private static final int NONE = GlossHouse.NONE;
    private static final int SIZE = GlossHouse.SIZE;
    private static final int OWN = GlossHouse.OWN;
    private static final int FAULT = GlossHouse.FAULT;

    private static final int[] TEN = {200, 201, 202, 203, 204, 205, 206, 299, 100, 103};

    private static final Due due = new Due();
    private static final Edges rich = new Edges(due, "a rich house", x -> Houses.rich(x, 200, 100));
    private static final Edges empty = new Edges(due, "an empty draft", x -> Houses.rich(x));
    private static final Edges full = new Edges(due, "a full house", x -> Houses.full(x, TEN));

    public static void main(String[] args) {
        handOfOtherNumbers();
        handIsFull();
        handIsNumberBeforeFull();
        hoursOfNoSuchHand();
        hoursOfOtherNumbers();
        hoursWereWhatTheyWere();
        termOfOtherNumbers();
        termInPlaceOfAnother();
        termIsFull();
        termIsNumberBeforeFull();
        forgetOfOtherNumbers();
        forgetOfNone();
        forgetUntilNoneIsLeft();
        writeOfOtherNumbers();
        writeToHeld();
        writeByAHandThatDoesNotKnow();
        writeOfNoSigns();
        writeOfOneAndTen();
        writeWithAWord();
        writeRefusalsInOrder();
        writeInPlaceOfEachState();
        reviewOfOtherNumbers();
        reviewOfAnotherState();
        reviewByAHandThatDoesNotKnow();
        reviewOfItsOwn();
        reviewOfAFault();
        reviewRefusalsInOrder();
        reviewOfJustTheSame();
        reviewAtTheMost();
        reuseOfOtherNumbers();
        reuseOfAnotherSort();
        reuseWithoutNearest();
        reuseRefusalsInOrder();
        reuseLeavesTheDraft();
        textOfOtherNumbers();
        textOfAnotherWhat();
        textWithout();
        textOfTen();
        faultOfOtherNumbers();
        faultWithout();
        limitOfOtherNumbers();
        limitWasWhatItWas();
        askingChangesNothing();
        due.end();
    }

    // ---- promise 11

    /** "NUMBER: a number isn't as told": TONGUES 1 to 7, HOURS 0 to 20, RATE 1 to 9. */
    private static void handOfOtherNumbers() {
        rich.range(0, 1, 7, "hand", 1, 0, 1);
        rich.range(1, 0, 20, "hand", 1, 0, 1);
        rich.range(2, 1, 9, "hand", 1, 0, 1);
        rich.answers(4, "hand", 1, 0, 1);
        rich.answers(4, "hand", 7, 20, 9);
    }

    /** "FULL": 5 HANDS are the most. */
    private static void handIsFull() {
        GlossHouse x = new GlossHouse();
        for (int hand = 0; hand < 5; hand++) {
            due.is("hand " + hand, x.hand(7, hand, 9), hand);
        }
        due.is("a sixth", x.hand(7, 20, 9), FULL);
        full.changesNothing(FULL, "hand", 1, 0, 1);
        full.changesNothing(FULL, "hand", 7, 20, 9);
    }

    /** "Of several refusals .. the first one named": NUMBER, FULL. */
    private static void handIsNumberBeforeFull() {
        int[][] wrong = {{0, 0, 1}, {8, 0, 1}, {1, -1, 1}, {1, 21, 1}, {1, 0, 0}, {1, 0, 10}};
        for (int[] w : wrong) {
            full.changesNothing(NUMBER, "hand", w);
        }
    }

    // ---- promise 12

    /** "NUMBER: there is none such": HANDS are 0 to 3 here, 0 to 4 when it is full. */
    private static void hoursOfNoSuchHand() {
        rich.range(0, 0, 3, "hours", 0, 5);
        full.range(0, 0, 4, "hours", 0, 5);
    }

    /** "NUMBER: .. n isn't 0 to 20". */
    private static void hoursOfOtherNumbers() {
        rich.range(1, 0, 20, "hours", 0, 0);
        rich.range(1, 0, 20, "hours", 3, 0);
    }

    /** "HOURS of a HAND: what they were", the least and the most. */
    private static void hoursWereWhatTheyWere() {
        GlossHouse x = rich.made();
        due.is("hours(3, 20)", x.hours(3, 20), 0);
        due.is("hours(3, 21)", x.hours(3, 21), NUMBER);
        due.is("hours(3, -1)", x.hours(3, -1), NUMBER);
        due.is("hours(3, 0)", x.hours(3, 0), 20);
        due.is("hours(3, 1)", x.hours(3, 1), 0);
        due.is("the others' stay", x.hours(2, 3), 3);
    }

    // ---- promise 13

    /** "NUMBER: no such WORD, TONGUE, OWN WORD". */
    private static void termOfOtherNumbers() {
        rich.range(0, 0, 99, "term", 0, 0, 200);
        rich.range(1, 0, 2, "term", 0, 0, 200);
        rich.range(2, 200, 299, "term", 0, 0, 200);
        for (int hole = 100; hole <= 103; hole++) {
            rich.changesNothing(NUMBER, "term", hole, 0, 200);
            rich.changesNothing(NUMBER, "term", 0, 0, hole);
        }
        rich.changesNothing(NUMBER, "term", 200, 0, 200);
        rich.changesNothing(NUMBER, "term", 0, 0, 0);
    }

    /** "A TERM comes, in place of another one of that WORD and TONGUE: how many there are." */
    private static void termInPlaceOfAnother() {
        rich.answers(3, "term", 1, 0, 299);
        rich.answers(4, "term", 1, 1, 299);
        rich.answers(4, "term", 2, 0, 211);
        rich.changesNothing(3, "term", 1, 0, 211);
        for (int i = 0; i < 10; i++) {
            full.answers(10, "term", i % 8, i / 8, 250);
        }
    }

    /** "FULL": 10 are the most at once. */
    private static void termIsFull() {
        full.changesNothing(FULL, "term", 8, 0, 200);
        full.changesNothing(FULL, "term", 99, 2, 299);
        full.changesNothing(FULL, "term", 2, 1, 212);
        GlossHouse x = full.made();
        x.forget(0, 0);
        due.is("a tenth when one is no more", x.term(8, 0, 200), 10);
        due.is("an eleventh", x.term(0, 0, 200), FULL);
    }

    /** "Of several refusals .. the first one named": NUMBER, FULL. */
    private static void termIsNumberBeforeFull() {
        full.changesNothing(NUMBER, "term", -1, 2, 200);
        full.changesNothing(NUMBER, "term", 100, 2, 200);
        full.changesNothing(NUMBER, "term", 99, -1, 200);
        full.changesNothing(NUMBER, "term", 99, 3, 200);
        full.changesNothing(NUMBER, "term", 99, 2, 199);
        full.changesNothing(NUMBER, "term", 99, 2, 300);
    }

    // ---- promise 14

    /** "NUMBER: no such WORD, TONGUE", which comes ahead of NONE. */
    private static void forgetOfOtherNumbers() {
        rich.range(0, 0, 99, "forget", 1, 0);
        rich.range(1, 0, 2, "forget", 1, 0);
        rich.changesNothing(NUMBER, "forget", 103, 0);
        rich.changesNothing(NUMBER, "forget", 200, 0);
    }

    /** "NONE: it has none": another WORD, or another TONGUE of that WORD. */
    private static void forgetOfNone() {
        rich.changesNothing(NONE, "forget", 0, 0);
        rich.changesNothing(NONE, "forget", 99, 2);
        rich.changesNothing(NONE, "forget", 1, 1);
        rich.changesNothing(NONE, "forget", 7, 0);
        GlossHouse x = rich.made();
        x.forget(1, 0);
        due.is("forgotten twice", x.forget(1, 0), NONE);
        due.is("two are left", x.many(4), 2);
    }

    /** "The TERM of a WORD and TONGUE is no more: how many there are": 9 to 0. */
    private static void forgetUntilNoneIsLeft() {
        GlossHouse x = full.made();
        for (int i = 0; i < 10; i++) {
            due.is("forget " + i, x.forget(i % 8, i / 8), 9 - i);
        }
        due.is("many(4)", x.many(4), 0);
        due.is("the edges of words and tongues", x.term(0, 0, 200) + x.term(99, 2, 299), 1 + 2);
        due.is("forget(99, 2)", x.forget(99, 2), 1);
        due.is("forget(0, 0)", x.forget(0, 0), 0);
    }

    // ---- promise 15

    /** "NUMBER: there is no such PIECE, TONGUE, HAND". */
    private static void writeOfOtherNumbers() {
        rich.range(0, 0, 3, "write", 0, 0, 0);
        rich.range(1, 0, 2, "write", 0, 0, 0);
        rich.range(2, 0, 3, "write", 0, 1, 0);
        full.range(0, 0, 7, "write", 0, 0, 0);
        full.range(2, 0, 4, "write", 0, 0, 0);
    }

    /** "KIND: the PIECE is HELD". */
    private static void writeToHeld() {
        for (int t = 0; t < 3; t++) {
            rich.changesNothing(KIND, "write", 2, t, 0);
        }
        rich.answers(2, "write", 1, 0, 0);
        rich.answers(2, "write", 3, 0, 0);
    }

    /** "KIND: .. the HAND doesn't know the TONGUE". */
    private static void writeByAHandThatDoesNotKnow() {
        rich.answers(2, "write", 0, 0, 2);
        rich.changesNothing(KIND, "write", 0, 1, 2);
        rich.changesNothing(KIND, "write", 0, 2, 2);
        rich.changesNothing(KIND, "write", 0, 0, 3);
        rich.answers(2, "write", 0, 1, 3);
        rich.changesNothing(KIND, "write", 0, 2, 3);
    }

    /** "SIZE: it has no SIGNS". */
    private static void writeOfNoSigns() {
        empty.changesNothing(SIZE, "write", 0, 0, 0);
        empty.changesNothing(SIZE, "write", 0, 1, 1);
        empty.changesNothing(SIZE, "write", 1, 0, 0);
    }

    /** "How many SIGNS": 1 and 10, THE DRAFT being empty then. */
    private static void writeOfOneAndTen() {
        new Edges(due, "one", x -> Houses.rich(x, 299)).answers(1, "write", 0, 0, 0);
        new Edges(due, "a hole", x -> Houses.rich(x, 100)).answers(1, "write", 0, 0, 0);
        full.answers(10, "write", 7, 2, 0);
        GlossHouse x = full.made();
        x.write(7, 2, 1);
        due.is("many(2)", x.many(2), 0);
        due.is("its size", x.text(7, 2, 2), 10);
        due.is("its hand", x.text(7, 2, 1), 1);
        for (int i = 0; i < 10; i++) {
            due.is("sign " + i, x.text(7, 2, 10 + i), TEN[i]);
        }
        due.is("not twice", x.write(7, 2, 1), SIZE);
    }

    /** "KIND: one is a WORD": the first of them or the last, at the front or behind. */
    private static void writeWithAWord() {
        int[][] drafts = {{0}, {99}, {0, 200}, {200, 0}, {100, 99}, {200, 99, 201},
            {200, 201, 202, 203, 204, 205, 206, 207, 208, 99}};
        for (int[] draft : drafts) {
            new Edges(due, "a word", x -> Houses.rich(x, draft)).changesNothing(KIND, "write", 0, 0, 0);
        }
        new Edges(due, "none", x -> Houses.rich(x, 100, 103, 200, 299)).answers(4, "write", 0, 0, 0);
    }

    /** "Of several refusals .. the first one named": NUMBER, KIND, SIZE, KIND. */
    private static void writeRefusalsInOrder() {
        empty.changesNothing(NUMBER, "write", 4, 0, 3);
        empty.changesNothing(NUMBER, "write", 2, 3, 0);
        empty.changesNothing(NUMBER, "write", 2, 0, 4);
        empty.changesNothing(NUMBER, "write", 2, -1, -1);
        empty.changesNothing(KIND, "write", 2, 0, 0);
        empty.changesNothing(KIND, "write", 0, 0, 3);
        empty.changesNothing(KIND, "write", 2, 0, 3);
        Edges word = new Edges(due, "a word", x -> Houses.rich(x, 1));
        word.changesNothing(NUMBER, "write", 4, 0, 0);
        word.changesNothing(NUMBER, "write", 0, 3, 0);
        word.changesNothing(NUMBER, "write", 0, 0, 4);
        word.changesNothing(KIND, "write", 0, 0, 0);
    }

    /** "THE DRAFT .. is the TEXT .. DRAFTED": in place of none, a DRAFTED, a REVIEWED, a DOUBTFUL one. */
    private static void writeInPlaceOfEachState() {
        int[][] places = {{0, 1, 0}, {3, 2, 1}, {0, 0, 2}, {1, 0, 3}};
        for (int[] place : places) {
            GlossHouse x = rich.made();
            due.is("the state before", x.text(place[0], place[1], 0), place[2]);
            due.is("write()", x.write(place[0], place[1], 1), 2);
            due.is("the state then", x.text(place[0], place[1], 0), 1);
            due.is("the hand then", x.text(place[0], place[1], 1), 1);
            due.is("the size then", x.text(place[0], place[1], 2), 2);
            due.is("no third sign", x.text(place[0], place[1], 12), NUMBER);
        }
    }

    // ---- promise 16

    /** "NUMBER: there is no such PIECE, TONGUE, HAND". */
    private static void reviewOfOtherNumbers() {
        rich.range(0, 0, 3, "review", 1, 1, 0);
        rich.range(1, 0, 2, "review", 1, 1, 0);
        rich.range(2, 0, 3, "review", 1, 1, 0);
        full.range(0, 0, 7, "review", 0, 0, 0);
        full.range(2, 0, 4, "review", 0, 0, 0);
    }

    /** "STATE: it isn't DRAFTED or DOUBTFUL": none, HELD's none, and REVIEWED. */
    private static void reviewOfAnotherState() {
        rich.changesNothing(STATE, "review", 0, 1, 0);
        rich.changesNothing(STATE, "review", 2, 0, 0);
        rich.changesNothing(STATE, "review", 0, 0, 1);
        rich.answers(4, "review", 1, 1, 0);
        Edges drafted = new Edges(due, "without that term", x -> {
            Houses.rich(x);
            x.forget(7, 2);
        });
        drafted.answers(4, "review", 3, 2, 1);
    }

    /** "KIND: the HAND doesn't know the TONGUE". */
    private static void reviewByAHandThatDoesNotKnow() {
        rich.changesNothing(KIND, "review", 1, 1, 2);
        rich.changesNothing(KIND, "review", 3, 2, 2);
        rich.changesNothing(KIND, "review", 3, 2, 3);
        rich.answers(4, "review", 1, 1, 3);
    }

    /** "OWN: it wrote it": DRAFTED or DOUBTFUL, and of reuse() too. */
    private static void reviewOfItsOwn() {
        rich.changesNothing(OWN, "review", 1, 1, 1);
        rich.changesNothing(OWN, "review", 3, 2, 0);
        Edges reused = new Edges(due, "reused", x -> {
            Houses.rich(x, 200);
            x.reuse(0, 0, 2);
        });
        reused.changesNothing(OWN, "review", 0, 0, 2);
        reused.answers(3, "review", 0, 0, 0);
        Edges again = new Edges(due, "written again by another", x -> {
            Houses.rich(x, 200);
            x.write(1, 1, 0);
        });
        again.answers(4, "review", 1, 1, 1);
        again.changesNothing(OWN, "review", 1, 1, 0);
    }

    /** "FAULT less its FAULT": each of the three. */
    private static void reviewOfAFault() {
        rich.changesNothing(FAULT - 2, "review", 1, 0, 1);
        rich.changesNothing(FAULT - 2, "review", 3, 2, 1);
        Edges holes = new Edges(due, "a hole too many", x -> {
            Houses.rich(x, 203, 103);
            x.write(1, 1, 0);
        });
        holes.changesNothing(FAULT - 1, "review", 1, 1, 1);
        Edges tooLong = new Edges(due, "more than the limit", x -> {
            Houses.rich(x, 200, 201, 202, 203, 204);
            x.write(1, 1, 0);
        });
        tooLong.changesNothing(FAULT - 3, "review", 1, 1, 1);
        Edges justSo = new Edges(due, "as many as the limit", x -> {
            Houses.rich(x, 200, 201, 202, 203);
            x.write(1, 1, 0);
        });
        justSo.answers(4, "review", 1, 1, 1);
    }

    /** "Of several refusals .. the first one named": NUMBER, STATE, KIND, OWN, FAULT. */
    private static void reviewRefusalsInOrder() {
        rich.changesNothing(NUMBER, "review", 4, 0, 3);
        rich.changesNothing(NUMBER, "review", 2, 3, 0);
        rich.changesNothing(NUMBER, "review", 2, 0, 4);
        rich.changesNothing(NUMBER, "review", 1, 0, -1);
        rich.changesNothing(STATE, "review", 0, 0, 3);
        rich.changesNothing(STATE, "review", 0, 0, 0);
        rich.changesNothing(STATE, "review", 0, 2, 2);
        Edges faulty = new Edges(due, "reviewed, and faulty since", x -> {
            Houses.rich(x, 200);
            x.term(2, 0, 299);
        });
        faulty.answers(2, "fault", 0, 0);
        faulty.changesNothing(STATE, "review", 0, 0, 1);
        rich.changesNothing(KIND, "review", 1, 0, 3);
        rich.changesNothing(OWN, "review", 1, 0, 0);
        rich.changesNothing(FAULT - 2, "review", 1, 0, 2);
    }

    /** "Comes to THE MEMORY (but if just the same is there): how many that has." */
    private static void reviewOfJustTheSame() {
        Edges same = new Edges(due, "just the same", x -> {
            Houses.rich(x, 211, 100);
            x.write(0, 0, 0);
        });
        same.answers(3, "review", 0, 0, 1);
        Edges longer = new Edges(due, "one sign more", x -> {
            Houses.rich(x, 211, 100, 200);
            x.write(0, 0, 0);
        });
        longer.answers(4, "review", 0, 0, 1);
        Edges turned = new Edges(due, "in another order", x -> {
            Houses.rich(x, 100, 211);
            x.write(0, 0, 0);
        });
        turned.answers(4, "review", 0, 0, 1);
        Edges tongue = new Edges(due, "in another tongue", x -> {
            Houses.rich(x, 211, 100);
            x.write(0, 1, 0);
        });
        tongue.answers(4, "review", 0, 1, 1);
        GlossHouse x = same.made();
        x.review(0, 0, 1);
        due.is("it is reviewed all the same", x.text(0, 0, 0), 2);
        GlossHouse y = Due.house(Due.row(1));
        Due.twoHands(y);
        due.is("a text of ten", Due.reviewed(y, 0, 0, 200, 201, 202, 203, 204, 205, 206, 207, 208, 209), 1);
        due.is("the same ten", Due.reviewed(y, 0, 0, 200, 201, 202, 203, 204, 205, 206, 207, 208, 209), 1);
        due.is("another tenth", Due.reviewed(y, 0, 0, 200, 201, 202, 203, 204, 205, 206, 207, 208, 299), 2);
        due.is("one", Due.reviewed(y, 0, 0, 200), 3);
        Due.write(y, 0, 0, 0, 290, 291);
        due.is("the same one, in place of a longer text", Due.reviewed(y, 0, 0, 200), 3);
        due.is("the first two of the ten", Due.reviewed(y, 0, 0, 200, 201), 4);
    }

    /** "How many that has": 20 are the most. */
    private static void reviewAtTheMost() {
        Edges another = new Edges(due, "a full memory", x -> {
            Houses.full(x, 290);
            x.write(7, 2, 0);
        });
        another.answers(20, "review", 7, 2, 1);
        GlossHouse x = another.made();
        x.review(7, 2, 1);
        due.is("the eldest went", x.memory(0, 20), 211);
        due.is("the youngest came", x.memory(19, 20), 290);
        due.is("its tongue", x.memory(19, 0), 2);
        due.is("no number 20", x.memory(20, 0), NUMBER);
    }

    // ---- promise 17

    /** "NUMBER .. as of write()". */
    private static void reuseOfOtherNumbers() {
        rich.range(0, 0, 3, "reuse", 0, 0, 0);
        rich.range(1, 0, 2, "reuse", 0, 0, 0);
        rich.range(2, 0, 3, "reuse", 0, 0, 0);
        full.range(0, 0, 7, "reuse", 0, 0, 0);
        full.range(2, 0, 4, "reuse", 0, 0, 0);
    }

    /** "KIND as of write()": HELD, or a HAND that doesn't know the TONGUE. */
    private static void reuseOfAnotherSort() {
        rich.changesNothing(KIND, "reuse", 2, 0, 0);
        rich.changesNothing(KIND, "reuse", 0, 0, 3);
        rich.changesNothing(KIND, "reuse", 2, 0, 3);
        rich.answers(2, "reuse", 0, 0, 2);
    }

    /** "NONE: there is no NEAREST": those of other TONGUES are none. */
    private static void reuseWithoutNearest() {
        rich.changesNothing(NONE, "reuse", 0, 1, 0);
        rich.changesNothing(NONE, "reuse", 1, 2, 1);
        rich.changesNothing(NONE, "reuse", 3, 1, 3);
    }

    /** "Of several refusals .. the first one named": NUMBER, KIND, NONE. */
    private static void reuseRefusalsInOrder() {
        rich.changesNothing(NUMBER, "reuse", 4, 1, 2);
        rich.changesNothing(NUMBER, "reuse", 2, 3, 0);
        rich.changesNothing(NUMBER, "reuse", 2, 1, 4);
        rich.changesNothing(KIND, "reuse", 2, 1, 0);
        rich.changesNothing(KIND, "reuse", 0, 1, 2);
        rich.changesNothing(KIND, "reuse", 0, 2, 3);
    }

    /** "THE NEAREST's TEXT is that of a PIECE": THE DRAFT is nothing to it, be it empty, full, or of WORDS. */
    private static void reuseLeavesTheDraft() {
        int[][] drafts = {{}, {1, 2}, TEN};
        for (int[] draft : drafts) {
            GlossHouse x = new GlossHouse();
            Houses.rich(x, draft);
            due.is("reuse()", x.reuse(3, 0, 2), 2);
            due.is("its state", x.text(3, 0, 0), 1);
            due.is("its hand", x.text(3, 0, 1), 2);
            due.is("its last sign", x.text(3, 0, 11), 206);
            due.is("the draft", x.many(2), draft.length);
            due.is("the memory", x.many(5), 3);
        }
        GlossHouse y = Due.house(Due.row(1));
        Due.twoHands(y);
        Due.reviewed(y, 0, 0, 200, 201, 202, 203, 204, 205, 206, 207, 208, 299);
        due.is("a text of ten", y.reuse(0, 0, 1), 10);
        due.is("its tenth sign", y.text(0, 0, 19), 299);
    }

    // ---- promise 18

    /** "NUMBER: there is no such PIECE, TONGUE". */
    private static void textOfOtherNumbers() {
        for (int what : new int[] {0, 2, 10}) {
            rich.range(0, 0, 3, "text", 0, 0, what);
        }
        rich.range(1, 0, 2, "text", 0, 0, 0);
        full.range(0, 0, 7, "text", 0, 0, 0);
        full.range(1, 0, 2, "text", 7, 0, 0);
    }

    /** "NUMBER: .. another what": 0 to 2, and 10 on as far as it has SIGNS. */
    private static void textOfAnotherWhat() {
        rich.range(2, 0, 2, "text", 0, 0, 0);
        rich.range(2, 10, 11, "text", 0, 0, 0);
        rich.range(2, 10, 10, "text", 1, 1, 0);
        for (int what = 3; what <= 9; what++) {
            rich.answers(NUMBER, "text", 0, 0, what);
        }
        rich.answers(NUMBER, "text", 0, 0, 20);
        rich.answers(NUMBER, "text", 0, 0, Integer.MIN_VALUE + 10);
    }

    /** "What = 0 its STATE, 1 the HAND that wrote it (NONE without), 2 how many SIGNS (0 without)". */
    private static void textWithout() {
        for (int[] place : new int[][] {{0, 1}, {0, 2}, {2, 0}, {3, 1}}) {
            rich.changesNothing(0, "text", place[0], place[1], 0);
            rich.changesNothing(NONE, "text", place[0], place[1], 1);
            rich.changesNothing(0, "text", place[0], place[1], 2);
            rich.changesNothing(NUMBER, "text", place[0], place[1], 10);
            rich.changesNothing(NUMBER, "text", place[0], place[1], 3);
        }
    }

    /** "10 + i: SIGN i": the tenth of ten. */
    private static void textOfTen() {
        Edges ten = new Edges(due, "a text of ten", x -> {
            Houses.full(x, TEN);
            x.write(0, 0, 0);
        });
        for (int i = 0; i < 10; i++) {
            ten.answers(TEN[i], "text", 0, 0, 10 + i);
        }
        ten.range(2, 10, 19, "text", 0, 0, 0);
    }

    // ---- promise 19

    /** "NUMBER: there is no such PIECE, TONGUE", which comes ahead of NONE. */
    private static void faultOfOtherNumbers() {
        rich.range(0, 0, 3, "fault", 0, 0);
        rich.range(0, 0, 3, "fault", 0, 1);
        rich.range(1, 0, 2, "fault", 0, 0);
        rich.range(1, 0, 2, "fault", 2, 0);
        full.range(0, 0, 7, "fault", 0, 0);
    }

    /** "NONE: there is no TEXT." */
    private static void faultWithout() {
        rich.changesNothing(NONE, "fault", 0, 1);
        rich.changesNothing(NONE, "fault", 2, 0);
        rich.changesNothing(NONE, "fault", 3, 1);
        rich.changesNothing(0, "fault", 0, 0);
        rich.changesNothing(2, "fault", 1, 0);
        rich.changesNothing(0, "fault", 1, 1);
        rich.changesNothing(2, "fault", 3, 2);
    }

    // ---- promise 20

    /** "NUMBER: n isn't 1 to 10." */
    private static void limitOfOtherNumbers() {
        rich.range(0, 1, 10, "limit", 1);
        new Edges(due, "a new house", x -> { }).range(0, 1, 10, "limit", 1);
    }

    /** "LIMIT: what it was", the least and the most; 6 at first. */
    private static void limitWasWhatItWas() {
        GlossHouse x = new GlossHouse();
        due.is("at first", x.limit(1), 6);
        due.is("limit(0)", x.limit(0), NUMBER);
        due.is("limit(10)", x.limit(10), 1);
        due.is("limit(11)", x.limit(11), NUMBER);
        due.is("limit(6)", x.limit(6), 10);
        rich.changesNothing(4, "limit", 4);
    }

    /** Calls that ask are no changes; nor are those that set what was there. */
    private static void askingChangesNothing() {
        rich.changesNothing(3, "text", 1, 0, 0);
        rich.changesNothing(1, "text", 1, 1, 1);
        rich.changesNothing(2, "text", 0, 0, 2);
        rich.changesNothing(206, "text", 3, 0, 11);
        rich.changesNothing(20, "hours", 0, 20);
    }
}
