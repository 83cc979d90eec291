/** Promises 21 and 22: nearest and memory; 28 and 29: keep and back. */
public final class MemoryTest {
    private static final Due due = new Due();

    public static void main(String[] args) {
        nearest();
        nearestRefusals();
        memory();
        eldestGoes();
        keepAndBack();
        memoryComesBack();
        fullHouseComesBack();
        whatIsNotKept();
        due.end();
    }

    private static void nearest() {
        GlossHouse x = Due.house(Due.row(1, 2, 3), Due.row(1, 2, 4), Due.row(7, 8, 9), Due.row(1, 2, 5));
        Due.twoHands(x);
        Due.reviewed(x, 0, 0, 200);
        Due.reviewed(x, 2, 0, 201, 202);
        due.is("its number", x.nearest(1, 0, 0), 0);
        due.is("how far", x.nearest(1, 0, 1), 1);
        due.is("its size", x.nearest(1, 0, 2), 1);
        due.is("of itself", x.nearest(2, 0, 0), 1);
        due.is("of itself: how far", x.nearest(2, 0, 1), 0);
        due.is("of itself: size", x.nearest(2, 0, 2), 2);
        due.is("of another tongue", x.nearest(1, 1, 0), GlossHouse.NONE);
        Due.reviewed(x, 1, 0, 203, 204, 205);
        due.is("of several the youngest", x.nearest(3, 0, 0), 2);
        due.is("its size then", x.nearest(3, 0, 2), 3);
        Due.reviewed(x, 3, 1, 206);
        due.is("another tongue is not looked at", x.nearest(3, 0, 0), 2);
        due.is("but in its own", x.nearest(0, 1, 0), 3);
        Due.reviewed(x, 0, 0, 207);
        due.is("the same piece, the youngest text", x.nearest(0, 0, 0), 4);
        due.is("one that is far", x.nearest(2, 1, 1), 3);
    }

    private static void nearestRefusals() {
        GlossHouse x = new GlossHouse();
        Due.piece(x, 1, 1, 2);
        Due.piece(x, 0, 1, 2);
        x.turn();
        Due.twoHands(x);
        due.is("none", x.nearest(0, 0, 0), GlossHouse.NONE);
        due.is("another what before none", x.nearest(0, 0, 3), GlossHouse.NUMBER);
        due.is("nearest(2, 0, 0)", x.nearest(2, 0, 0), GlossHouse.NUMBER);
        due.is("nearest(0, 3, 0)", x.nearest(0, 3, 0), GlossHouse.NUMBER);
        Due.reviewed(x, 1, 0, 200);
        due.is("a held piece has one too", x.nearest(0, 0, 1), 0);
        for (int wrong : Due.BEYOND) {
            due.is("nearest(" + wrong + ", 0, 0)", x.nearest(wrong, 0, 0), GlossHouse.NUMBER);
            due.is("nearest(0, " + wrong + ", 0)", x.nearest(0, wrong, 0), GlossHouse.NUMBER);
            due.is("nearest(0, 0, " + wrong + ")", x.nearest(0, 0, wrong), GlossHouse.NUMBER);
        }
    }

    private static void memory() {
        GlossHouse x = Due.house(Due.row(1, 2, 3, 4, 5, 6, 7, 8));
        Due.twoHands(x);
        Due.reviewed(x, 0, 2, 200, 201, 202, 203, 204, 205, 206, 207, 208, 209);
        due.is("memory(0, 0)", x.memory(0, 0), 2);
        due.is("memory(0, 1)", x.memory(0, 1), 8);
        due.is("memory(0, 2)", x.memory(0, 2), 10);
        for (int i = 0; i < 10; i++) {
            due.is("piece's sign " + i, x.memory(0, 10 + i), i < 8 ? i + 1 : GlossHouse.NUMBER);
            due.is("text's sign " + i, x.memory(0, 20 + i), 200 + i);
        }
        for (int what : new int[] {3, 9, 30, 31}) {
            due.is("memory(0, " + what + ")", x.memory(0, what), GlossHouse.NUMBER);
        }
        due.is("memory(1, 0)", x.memory(1, 0), GlossHouse.NUMBER);
        for (int wrong : Due.BEYOND) {
            due.is("memory(" + wrong + ", 0)", x.memory(wrong, 0), GlossHouse.NUMBER);
            due.is("memory(0, " + wrong + ")", x.memory(0, wrong), GlossHouse.NUMBER);
        }
        Due.write(x, 0, 2, 0, 299);
        due.is("it stays when the text changes", x.memory(0, 20), 200);
        Due.piece(x, 0, 50);
        x.turn();
        due.is("and when the source does", x.memory(0, 10), 1);
    }

    private static void eldestGoes() {
        GlossHouse x = Due.house(Due.row(1), Due.row(2));
        Due.twoHands(x);
        for (int i = 0; i < 20; i++) {
            due.is("review " + i, Due.reviewed(x, 0, 0, 200 + i), i + 1);
        }
        due.is("the eldest", x.memory(0, 20), 200);
        due.is("just the same as the eldest", Due.reviewed(x, 0, 0, 200), 20);
        due.is("no one goes for it", x.memory(0, 20), 200);
        due.is("one more", Due.reviewed(x, 1, 1, 250, 251), 20);
        due.is("the eldest went", x.memory(0, 20), 201);
        due.is("the youngest is last", x.memory(19, 20), 250);
        due.is("its tongue", x.memory(19, 0), 1);
        due.is("its piece", x.memory(19, 10), 2);
        due.is("the one before it", x.memory(18, 20), 219);
        due.is("the one that went comes anew", Due.reviewed(x, 0, 0, 200), 20);
        due.is("as the youngest", x.memory(19, 20), 200);
        due.is("the eldest then", x.memory(0, 20), 202);
        for (int i = 0; i < 19; i++) {
            Due.reviewed(x, 0, 2, 230 + i);
        }
        due.is("a tongue may be forgotten", x.nearest(1, 1, 0), GlossHouse.NONE);
    }

    private static void keepAndBack() {
        GlossHouse x = Due.house(Due.row(1, 2), Due.row(3));
        Due.twoHands(x);
        due.is("back() before", x.back(), GlossHouse.NONE);
        Due.reviewed(x, 0, 0, 200);
        Due.piece(x, 0, 3);
        Due.piece(x, 2, 1, 9);
        x.turn();
        due.is("keep()", x.keep(), 1);
        Due.reviewed(x, 0, 1, 210);
        Due.write(x, 1, 0, 1, 211, 212);
        Due.piece(x, 0, 60);
        x.turn();
        due.is("back()", x.back(), 1);
        due.is("its pieces", x.many(0), 2);
        due.is("its kind", x.of(1, 0), 2);
        due.is("its sign", x.of(1, 11), 9);
        due.is("from", x.from(0), 1);
        due.is("story", x.story(1), 2);
        due.is("its text", x.text(1, 0, 0), 3);
        due.is("its text's sign", x.text(1, 0, 10), 200);
        due.is("its text's hand", x.text(1, 0, 1), 0);
        due.is("what was written later is gone", x.text(0, 1, 0), 0);
        due.is("the memory", x.many(5), 1);
        Due.reviewed(x, 0, 1, 213);
        x.back();
        due.is("what was kept stays", x.many(5), 1);
        due.is("with its texts", x.text(0, 1, 0), 0);
        Due.piece(x, 0, 70);
        x.turn();
        due.is("keep() again", x.keep(), 1);
        Due.piece(x, 0, 71);
        x.turn();
        x.back();
        due.is("the latest comes back", x.of(0, 10), 70);
    }

    private static void memoryComesBack() {
        GlossHouse x = Due.house(Due.row(1, 2), Due.row(3));
        Due.twoHands(x);
        Due.reviewed(x, 0, 0, 200);
        Due.reviewed(x, 1, 2, 201, 202);
        x.keep();
        for (int i = 0; i < 20; i++) {
            Due.reviewed(x, 0, 1, 210 + i);
        }
        due.is("what was kept went", x.memory(0, 20), 210);
        for (int again = 0; again < 2; again++) {
            x.back();
            due.is("many(5)", x.many(5), 2);
            due.is("the eldest's tongue", x.memory(0, 0), 0);
            due.is("the eldest's piece", x.memory(0, 11), 2);
            due.is("the eldest's text", x.memory(0, 20), 200);
            due.is("the youngest's tongue", x.memory(1, 0), 2);
            due.is("the youngest's piece", x.memory(1, 10), 3);
            due.is("the youngest's text", x.memory(1, 21), 202);
            due.is("no more", x.memory(2, 0), GlossHouse.NUMBER);
            due.is("the nearest of a tongue that came later", x.nearest(0, 1, 0), GlossHouse.NONE);
            Due.reviewed(x, 0, 0, 240);
            Due.reviewed(x, 1, 2, 241);
        }
    }

    private static void fullHouseComesBack() {
        GlossHouse x = new GlossHouse();
        Due.twoHands(x);
        for (int i = 0; i < 8; i++) {
            Due.piece(x, 0, i, i, i, i, i, i, i, i + 20);
        }
        x.turn();
        for (int i = 0; i < 24; i++) {
            Due.reviewed(x, i % 8, i / 8, 200, 201, 202, 203, 204, 205, 206, 207, 208, 210 + i);
        }
        x.keep();
        Due.piece(x, 0, 50);
        x.turn();
        Due.reviewed(x, 0, 0, 250);
        due.is("back()", x.back(), 1);
        due.is("many(0)", x.many(0), 8);
        due.is("many(5)", x.many(5), 20);
        due.is("many(7)", x.many(7), 24);
        for (int i = 0; i < 8; i++) {
            due.is("the last sign of piece " + i, x.of(i, 17), i + 20);
            due.is("the last sign of its last text", x.text(i, 2, 19), 210 + 16 + i);
        }
        for (int k = 0; k < 20; k++) {
            due.is("the last sign of the text of number " + k, x.memory(k, 29), 214 + k);
            due.is("and of its piece", x.memory(k, 17), (k + 4) % 8 + 20);
        }
    }

    private static void whatIsNotKept() {
        GlossHouse x = Due.house(Due.row(1));
        x.hand(7, 5, 1);
        x.keep();
        x.hand(7, 6, 1);
        x.hours(0, 9);
        x.term(1, 0, 200);
        x.limit(2);
        Due.piece(x, 0, 5);
        Due.signs(x, 4);
        due.is("back()", x.back(), 1);
        due.is("hands stay", x.many(3), 2);
        due.is("hours stay", x.hours(0, 9), 9);
        due.is("terms stay", x.many(4), 1);
        due.is("the limit stays", x.limit(2), 2);
        due.is("the next one stays", x.many(1), 1);
        due.is("the draft stays", x.many(2), 1);
        GlossHouse y = new GlossHouse();
        due.is("nothing may be kept too", y.keep(), 1);
        Due.piece(y, 0, 1);
        y.turn();
        due.is("back() to nothing", y.back(), 1);
        due.is("many(0)", y.many(0), 0);
    }
}
