/** Promises 11 to 20: hand, hours, term, forget, write, review, reuse, text, fault, limit. */
public final class TextsTest {
    private static final Due due = new Due();

    public static void main(String[] args) {
        hand();
        hours();
        term();
        forget();
        write();
        writeRefusalsInOrder();
        review();
        reviewRefusalsInOrder();
        reuse();
        reuseRefusals();
        text();
        faultOfHoles();
        faultOfTerms();
        faultOfShort();
        faultsInOrder();
        limit();
        due.end();
    }

    private static void hand() {
        GlossHouse x = new GlossHouse();
        for (int wrong : Due.BEYOND) {
            due.is("hand(" + wrong + ", 0, 1)", x.hand(wrong, 0, 1), GlossHouse.NUMBER);
            due.is("hand(1, " + wrong + ", 1)", x.hand(1, wrong, 1), GlossHouse.NUMBER);
            due.is("hand(1, 0, " + wrong + ")", x.hand(1, 0, wrong), GlossHouse.NUMBER);
        }
        due.is("hand(0, 0, 1)", x.hand(0, 0, 1), GlossHouse.NUMBER);
        due.is("hand(8, 0, 1)", x.hand(8, 0, 1), GlossHouse.NUMBER);
        due.is("hand(1, 21, 1)", x.hand(1, 21, 1), GlossHouse.NUMBER);
        due.is("hand(1, 0, 0)", x.hand(1, 0, 0), GlossHouse.NUMBER);
        due.is("hand(1, 0, 10)", x.hand(1, 0, 10), GlossHouse.NUMBER);
        due.is("none came", x.many(3), 0);
        due.is("hand(1, 0, 1)", x.hand(1, 0, 1), 0);
        due.is("hand(7, 20, 9)", x.hand(7, 20, 9), 1);
        for (int i = 2; i < 5; i++) {
            due.is("hand " + i, x.hand(i, i, i), i);
        }
        due.is("hand 5", x.hand(1, 0, 1), GlossHouse.FULL);
        due.is("number before full", x.hand(8, 0, 1), GlossHouse.NUMBER);
        due.is("many(3)", x.many(3), 5);
    }

    private static void hours() {
        GlossHouse x = new GlossHouse();
        due.is("hours(0, 1) without hands", x.hours(0, 1), GlossHouse.NUMBER);
        x.hand(1, 4, 1);
        x.hand(1, 5, 1);
        due.is("hours(0, 20)", x.hours(0, 20), 4);
        due.is("hours(0, 0)", x.hours(0, 0), 20);
        due.is("hours(0, 21)", x.hours(0, 21), GlossHouse.NUMBER);
        due.is("hours(2, 1)", x.hours(2, 1), GlossHouse.NUMBER);
        for (int wrong : Due.BEYOND) {
            due.is("hours(0, " + wrong + ")", x.hours(0, wrong), GlossHouse.NUMBER);
            due.is("hours(" + wrong + ", 1)", x.hours(wrong, 1), GlossHouse.NUMBER);
        }
        due.is("hours(0, 3)", x.hours(0, 3), 0);
        due.is("hours(1, 3)", x.hours(1, 3), 5);
    }

    private static void term() {
        GlossHouse x = new GlossHouse();
        int[][] wrong = {{-1, 0, 200}, {100, 0, 200}, {200, 0, 200}, {0, -1, 200}, {0, 3, 200},
            {0, 0, 199}, {0, 0, 300}, {0, 0, 100}, {0, 0, 0}, {Integer.MIN_VALUE, 0, 200},
            {0, Integer.MAX_VALUE, 200}, {0, 0, Integer.MIN_VALUE}};
        for (int[] w : wrong) {
            due.is("term" + java.util.Arrays.toString(w), x.term(w[0], w[1], w[2]), GlossHouse.NUMBER);
        }
        due.is("term(0, 0, 200)", x.term(0, 0, 200), 1);
        due.is("term(99, 2, 299)", x.term(99, 2, 299), 2);
        due.is("the same word in another tongue", x.term(0, 1, 200), 3);
        due.is("in place of another one", x.term(0, 0, 250), 3);
        for (int i = 4; i <= 10; i++) {
            due.is("term " + i, x.term(i, 0, 200), i);
        }
        due.is("term 11", x.term(11, 0, 200), GlossHouse.FULL);
        due.is("in place of another one, when full", x.term(10, 0, 222), 10);
        due.is("number before full", x.term(100, 0, 200), GlossHouse.NUMBER);
        due.is("many(4)", x.many(4), 10);
    }

    private static void forget() {
        GlossHouse x = new GlossHouse();
        x.term(5, 1, 200);
        x.term(6, 1, 200);
        due.is("another tongue has none", x.forget(5, 0), GlossHouse.NONE);
        due.is("another word has none", x.forget(7, 1), GlossHouse.NONE);
        due.is("forget(100, 1)", x.forget(100, 1), GlossHouse.NUMBER);
        due.is("forget(5, 3)", x.forget(5, 3), GlossHouse.NUMBER);
        for (int wrong : Due.BEYOND) {
            due.is("forget(" + wrong + ", 1)", x.forget(wrong, 1), GlossHouse.NUMBER);
            due.is("forget(5, " + wrong + ")", x.forget(5, wrong), GlossHouse.NUMBER);
        }
        due.is("many(4)", x.many(4), 2);
        due.is("forget(5, 1)", x.forget(5, 1), 1);
        due.is("forget(5, 1) again", x.forget(5, 1), GlossHouse.NONE);
        due.is("it may come again", x.term(5, 1, 201), 2);
    }

    private static void write() {
        GlossHouse x = Due.house(Due.row(1), Due.row(2));
        x.hand(2, 0, 1);
        x.hand(7, 0, 1);
        due.is("a text of ten", Due.write(x, 0, 1, 0, 200, 201, 202, 203, 204, 205, 206, 207, 100, 103), 10);
        due.is("the draft is empty", x.many(2), 0);
        due.is("its state", x.text(0, 1, 0), 1);
        due.is("its hand", x.text(0, 1, 1), 0);
        due.is("its last sign", x.text(0, 1, 19), 103);
        due.is("other tongues have none", x.text(0, 0, 0), 0);
        due.is("other pieces have none", x.text(1, 1, 0), 0);
        due.is("in place of another one", Due.write(x, 0, 1, 1, 210), 1);
        due.is("its hand then", x.text(0, 1, 1), 1);
        due.is("its size then", x.text(0, 1, 2), 1);
        due.is("holes alone", Due.write(x, 1, 0, 1, 101), 1);
        due.is("many(6)", x.many(6), 2);
        due.is("reviewed", x.review(0, 1, 0), 1);
        due.is("in place of a reviewed one", Due.write(x, 0, 1, 0, 211), 1);
        due.is("it is drafted then", x.text(0, 1, 0), 1);
    }

    private static void writeRefusalsInOrder() {
        GlossHouse x = new GlossHouse();
        Due.piece(x, 0, 1);
        Due.piece(x, 1, 2);
        x.turn();
        x.hand(3, 0, 1);
        Due.signs(x, 1);
        for (int wrong : new int[] {-1, 2, Integer.MIN_VALUE, Integer.MAX_VALUE}) {
            due.is("write(" + wrong + ", 0, 0)", x.write(wrong, 0, 0), GlossHouse.NUMBER);
            due.is("write(1, 0, " + wrong + ")", x.write(1, 0, wrong), GlossHouse.NUMBER);
        }
        due.is("write(1, 3, 0)", x.write(1, 3, 0), GlossHouse.NUMBER);
        due.is("write(1, -1, 0)", x.write(1, -1, 0), GlossHouse.NUMBER);
        due.is("write(0, 0, 1)", x.write(0, 0, 1), GlossHouse.NUMBER);
        x.scrap();
        due.is("held before size", x.write(1, 0, 0), GlossHouse.KIND);
        due.is("an unknown tongue before size", x.write(0, 2, 0), GlossHouse.KIND);
        due.is("size", x.write(0, 0, 0), GlossHouse.SIZE);
        Due.signs(x, 200, 99);
        due.is("a word", x.write(0, 0, 0), GlossHouse.KIND);
        due.is("refused: the draft stays", x.many(2), 2);
        due.is("refused: no text", x.text(0, 0, 0), 0);
    }

    private static void review() {
        GlossHouse x = Due.house(Due.row(1, 100), Due.row(2));
        Due.twoHands(x);
        Due.write(x, 0, 0, 0, 100, 205);
        due.is("review()", x.review(0, 0, 1), 1);
        due.is("its state", x.text(0, 0, 0), 2);
        due.is("who wrote it stays", x.text(0, 0, 1), 0);
        due.is("memory: tongue", x.memory(0, 0), 0);
        due.is("memory: piece", x.memory(0, 11), 100);
        due.is("memory: text", x.memory(0, 21), 205);
        Due.write(x, 0, 0, 1, 100, 205);
        due.is("just the same comes not again", x.review(0, 0, 0), 1);
        due.is("but is reviewed", x.text(0, 0, 0), 2);
        due.is("another text comes", Due.reviewed(x, 0, 0, 205, 100), 2);
        due.is("another tongue comes", Due.reviewed(x, 0, 1, 205, 100), 3);
        due.is("another piece comes", Due.reviewed(x, 1, 0, 205), 4);
        due.is("another tongue of it comes", Due.reviewed(x, 1, 1, 205), 5);
        Due.piece(x, 0, 2, 3);
        x.turn();
        due.is("doubtful", x.text(0, 0, 0), 3);
        due.is("a doubtful one's writer may not", x.review(0, 0, 0), GlossHouse.OWN);
        due.is("a doubtful one is reviewed", x.review(0, 0, 1), 6);
        due.is("and remembered with its new piece", x.memory(5, 1), 2);
    }

    private static void reviewRefusalsInOrder() {
        GlossHouse x = new GlossHouse();
        Due.piece(x, 0, 1, 101);
        Due.piece(x, 1, 2);
        x.turn();
        x.hand(7, 0, 1);
        x.hand(2, 0, 1);
        x.hand(7, 0, 1);
        due.is("review(2, 0, 0)", x.review(2, 0, 0), GlossHouse.NUMBER);
        due.is("review(-1, 0, 0)", x.review(-1, 0, 0), GlossHouse.NUMBER);
        due.is("review(0, 3, 0)", x.review(0, 3, 0), GlossHouse.NUMBER);
        due.is("review(0, -1, 0)", x.review(0, -1, 0), GlossHouse.NUMBER);
        due.is("review(0, 0, 3)", x.review(0, 0, 3), GlossHouse.NUMBER);
        due.is("review(0, 0, -1)", x.review(0, 0, -1), GlossHouse.NUMBER);
        due.is("no text, before an unknown tongue", x.review(0, 0, 1), GlossHouse.STATE);
        due.is("held has no text", x.review(1, 0, 0), GlossHouse.STATE);
        Due.write(x, 0, 0, 0, 200);
        due.is("an unknown tongue before a fault", x.review(0, 0, 1), GlossHouse.KIND);
        due.is("own before a fault", x.review(0, 0, 0), GlossHouse.OWN);
        due.is("a fault", x.review(0, 0, 2), GlossHouse.FAULT - 1);
        due.is("refused: the state stays", x.text(0, 0, 0), 1);
        due.is("refused: nothing is remembered", x.many(5), 0);
        Due.write(x, 0, 0, 0, 200, 101);
        x.term(1, 0, 201);
        due.is("a fault of terms", x.review(0, 0, 2), GlossHouse.FAULT - 2);
        x.forget(1, 0);
        due.is("reviewed", x.review(0, 0, 2), 1);
        due.is("not again", x.review(0, 0, 2), GlossHouse.STATE);
        due.is("state before own", x.review(0, 0, 0), GlossHouse.STATE);
    }

    private static void reuse() {
        GlossHouse x = Due.house(Due.row(1, 2, 3), Due.row(1, 2, 9), Due.row(7, 8, 9));
        Due.twoHands(x);
        Due.reviewed(x, 0, 0, 210, 211);
        Due.reviewed(x, 2, 0, 220);
        Due.signs(x, 1, 2);
        due.is("reuse()", x.reuse(1, 0, 1), 2);
        due.is("its state", x.text(1, 0, 0), 1);
        due.is("its hand", x.text(1, 0, 1), 1);
        due.is("its sign", x.text(1, 0, 11), 211);
        due.is("the draft stays", x.many(2), 2);
        due.is("in place of a reviewed one", x.reuse(0, 0, 1), 2);
        due.is("which is drafted then", x.text(0, 0, 0), 1);
        due.is("the memory stays", x.many(5), 2);
    }

    private static void reuseRefusals() {
        GlossHouse x = new GlossHouse();
        Due.piece(x, 0, 1);
        Due.piece(x, 1, 1);
        x.turn();
        x.hand(3, 0, 1);
        x.hand(1, 0, 1);
        due.is("no nearest", x.reuse(0, 0, 0), GlossHouse.NONE);
        due.is("held before none", x.reuse(1, 0, 0), GlossHouse.KIND);
        due.is("an unknown tongue before none", x.reuse(0, 2, 0), GlossHouse.KIND);
        due.is("reuse(2, 0, 0)", x.reuse(2, 0, 0), GlossHouse.NUMBER);
        due.is("reuse(-1, 0, 0)", x.reuse(-1, 0, 0), GlossHouse.NUMBER);
        due.is("reuse(1, 3, 0)", x.reuse(1, 3, 0), GlossHouse.NUMBER);
        due.is("reuse(1, -1, 0)", x.reuse(1, -1, 0), GlossHouse.NUMBER);
        due.is("reuse(1, 0, 2)", x.reuse(1, 0, 2), GlossHouse.NUMBER);
        due.is("reuse(1, 0, -1)", x.reuse(1, 0, -1), GlossHouse.NUMBER);
        Due.reviewed(x, 0, 0, 200);
        due.is("a nearest of another tongue is none", x.reuse(0, 1, 0), GlossHouse.NONE);
        due.is("held, with a nearest", x.reuse(1, 0, 0), GlossHouse.KIND);
        due.is("a hand that knows it", x.reuse(0, 0, 1), 1);
    }

    private static void text() {
        GlossHouse x = Due.house(Due.row(1), Due.row(2));
        Due.twoHands(x);
        Due.write(x, 1, 2, 1, 250, 100, 251);
        due.is("text(1, 2, 0)", x.text(1, 2, 0), 1);
        due.is("text(1, 2, 1)", x.text(1, 2, 1), 1);
        due.is("text(1, 2, 2)", x.text(1, 2, 2), 3);
        due.is("text(1, 2, 10)", x.text(1, 2, 10), 250);
        due.is("text(1, 2, 12)", x.text(1, 2, 12), 251);
        due.is("text(1, 2, 13)", x.text(1, 2, 13), GlossHouse.NUMBER);
        due.is("text(1, 2, 3)", x.text(1, 2, 3), GlossHouse.NUMBER);
        due.is("text(1, 2, 9)", x.text(1, 2, 9), GlossHouse.NUMBER);
        due.is("without: state", x.text(0, 0, 0), 0);
        due.is("without: hand", x.text(0, 0, 1), GlossHouse.NONE);
        due.is("without: size", x.text(0, 0, 2), 0);
        due.is("without: sign", x.text(0, 0, 10), GlossHouse.NUMBER);
        due.is("text(2, 0, 0)", x.text(2, 0, 0), GlossHouse.NUMBER);
        due.is("text(0, 3, 0)", x.text(0, 3, 0), GlossHouse.NUMBER);
        for (int wrong : Due.BEYOND) {
            due.is("text(" + wrong + ", 0, 0)", x.text(wrong, 0, 0), GlossHouse.NUMBER);
            due.is("text(0, " + wrong + ", 0)", x.text(0, wrong, 0), GlossHouse.NUMBER);
            due.is("text(1, 2, " + wrong + ")", x.text(1, 2, wrong), GlossHouse.NUMBER);
        }
    }

    private static void faultOfHoles() {
        GlossHouse x = Due.house(Due.row(1, 100, 103, 103));
        Due.twoHands(x);
        due.is("no text", x.fault(0, 0), GlossHouse.NONE);
        due.is("fault(1, 0)", x.fault(1, 0), GlossHouse.NUMBER);
        due.is("fault(-1, 0)", x.fault(-1, 0), GlossHouse.NUMBER);
        due.is("fault(0, 3)", x.fault(0, 3), GlossHouse.NUMBER);
        due.is("fault(0, -1)", x.fault(0, -1), GlossHouse.NUMBER);
        Due.write(x, 0, 0, 0, 103, 100, 103);
        due.is("in another order", x.fault(0, 0), 0);
        Due.write(x, 0, 0, 0, 103, 100);
        due.is("one too few", x.fault(0, 0), 1);
        Due.write(x, 0, 0, 0, 103, 100, 103, 103);
        due.is("one too many", x.fault(0, 0), 1);
        Due.write(x, 0, 0, 0, 103, 100, 103, 101);
        due.is("one of another sort", x.fault(0, 0), 1);
        Due.write(x, 0, 0, 0, 103, 102, 103);
        due.is("one changed", x.fault(0, 0), 1);
        Due.write(x, 0, 0, 0, 103, 100, 103, 200);
        x.review(0, 0, 1);
        due.is("of a reviewed one", x.fault(0, 0), 0);
    }

    private static void faultOfTerms() {
        GlossHouse x = Due.house(Due.row(1, 2));
        Due.twoHands(x);
        Due.write(x, 0, 0, 0, 210);
        due.is("no terms", x.fault(0, 0), 0);
        x.term(3, 0, 250);
        due.is("a term of another word", x.fault(0, 0), 0);
        x.term(1, 1, 250);
        due.is("a term of another tongue", x.fault(0, 0), 0);
        x.term(1, 0, 210);
        due.is("a term that it has", x.fault(0, 0), 0);
        x.term(2, 0, 211);
        due.is("one that it hasn't", x.fault(0, 0), 2);
        Due.write(x, 0, 0, 0, 211, 210);
        due.is("both", x.fault(0, 0), 0);
        x.term(2, 0, 210);
        due.is("one own word for two words", x.fault(0, 0), 0);
        x.term(2, 0, 299);
        due.is("a term that changed", x.fault(0, 0), 2);
        x.forget(2, 0);
        due.is("a term that is no more", x.fault(0, 0), 0);
    }

    private static void faultOfShort() {
        GlossHouse x = new GlossHouse();
        Due.piece(x, 0, 1);
        Due.piece(x, 2, 2);
        x.turn();
        Due.twoHands(x);
        Due.write(x, 1, 0, 0, 200, 201, 202, 203, 204, 205);
        due.is("as many as the limit", x.fault(1, 0), 0);
        Due.write(x, 1, 0, 0, 200, 201, 202, 203, 204, 205, 206);
        due.is("one more", x.fault(1, 0), 3);
        Due.write(x, 0, 0, 0, 200, 201, 202, 203, 204, 205, 206);
        due.is("a plain one", x.fault(0, 0), 0);
        x.limit(7);
        due.is("another limit", x.fault(1, 0), 0);
        x.limit(1);
        due.is("the least limit", x.fault(1, 0), 3);
    }

    private static void faultsInOrder() {
        GlossHouse x = new GlossHouse();
        Due.piece(x, 2, 1, 100);
        x.turn();
        Due.twoHands(x);
        x.limit(1);
        x.term(1, 0, 250);
        Due.write(x, 0, 0, 0, 200, 201);
        due.is("holes first", x.fault(0, 0), 1);
        Due.write(x, 0, 0, 0, 100, 201);
        due.is("terms then", x.fault(0, 0), 2);
        due.is("review tells it", x.review(0, 0, 1), GlossHouse.FAULT - 2);
        Due.write(x, 0, 0, 0, 100, 250);
        due.is("the limit then", x.fault(0, 0), 3);
        due.is("review tells it too", x.review(0, 0, 1), GlossHouse.FAULT - 3);
    }

    private static void limit() {
        GlossHouse x = new GlossHouse();
        due.is("limit(10)", x.limit(10), 6);
        due.is("limit(1)", x.limit(1), 10);
        due.is("limit(0)", x.limit(0), GlossHouse.NUMBER);
        due.is("limit(11)", x.limit(11), GlossHouse.NUMBER);
        for (int wrong : Due.BEYOND) {
            due.is("limit(" + wrong + ")", x.limit(wrong), GlossHouse.NUMBER);
        }
        due.is("limit(5)", x.limit(5), 1);
    }
}
