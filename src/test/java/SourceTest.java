/** Promises 1 to 10: a new object, sign, scrap, piece, drop, turn, of, far, from, story. */
public final class SourceTest {
    private static final Due due = new Due();

    public static void main(String[] args) {
        newObject();
        sign();
        signEdges();
        scrap();
        piece();
        pieceRefusalsInOrder();
        drop();
        turn();
        turnPrefersLesserPlaces();
        turnCostsLeastAsAWhole();
        turnTakesTextsOver();
        turnToHeld();
        of();
        far();
        fromAndStory();
        due.end();
    }

    private static void newObject() {
        GlossHouse x = new GlossHouse();
        for (int what = 0; what <= 11; what++) {
            due.is("new many(" + what + ")", x.many(what), 0);
        }
        due.is("new back()", x.back(), GlossHouse.NONE);
        due.is("new memory(0, 0)", x.memory(0, 0), GlossHouse.NUMBER);
        due.is("new of(0, 0)", x.of(0, 0), GlossHouse.NUMBER);
        due.is("new hours(0, 1)", x.hours(0, 1), GlossHouse.NUMBER);
        due.is("new forget(0, 0)", x.forget(0, 0), GlossHouse.NONE);
        due.is("new turn()", x.turn(), GlossHouse.NONE);
        due.is("new scrap()", x.scrap(), 0);
        due.is("new limit(3)", x.limit(3), 6);
        due.is("new planned(0, 2)", x.planned(0, 2), 0);
        due.is("new release(0, 0)", x.release(0, 0), GlossHouse.NONE);
    }

    private static void sign() {
        GlossHouse x = new GlossHouse();
        for (int i = 1; i <= 10; i++) {
            due.is("sign " + i, x.sign(i), i);
        }
        due.is("sign 11", x.sign(1), GlossHouse.FULL);
        due.is("no sign before full", x.sign(104), GlossHouse.NUMBER);
        due.is("many(2) of a full draft", x.many(2), 10);
    }

    private static void signEdges() {
        int[] some = {0, 99, 100, 103, 200, 299};
        int[] none = {-1, 104, 199, 300, Integer.MIN_VALUE, Integer.MAX_VALUE};
        GlossHouse x = new GlossHouse();
        for (int i = 0; i < some.length; i++) {
            due.is("sign(" + some[i] + ")", x.sign(some[i]), i + 1);
        }
        for (int sign : none) {
            due.is("sign(" + sign + ")", x.sign(sign), GlossHouse.NUMBER);
        }
        due.is("only signs came", x.many(2), some.length);
    }

    private static void scrap() {
        GlossHouse x = new GlossHouse();
        Due.signs(x, 1, 200, 100);
        due.is("scrap()", x.scrap(), 3);
        due.is("scrap() again", x.scrap(), 0);
        due.is("many(2) after scrap()", x.many(2), 0);
        due.is("sign after scrap()", x.sign(5), 1);
    }

    private static void piece() {
        GlossHouse x = new GlossHouse();
        for (int i = 0; i < 8; i++) {
            due.is("piece " + i, Due.piece(x, i % 3, i, 100), i);
            due.is("the draft is empty", x.many(2), 0);
            due.is("many(1)", x.many(1), i + 1);
        }
        due.is("piece 9", Due.piece(x, 0, 1), GlossHouse.FULL);
        due.is("a refused piece leaves the draft", x.many(2), 1);
        due.is("the source is as it was", x.many(0), 0);
    }

    private static void pieceRefusalsInOrder() {
        GlossHouse x = new GlossHouse();
        for (int kind : Due.BEYOND) {
            due.is("piece(" + kind + ")", x.piece(kind), GlossHouse.NUMBER);
        }
        due.is("piece(3)", x.piece(3), GlossHouse.NUMBER);
        due.is("an empty piece", x.piece(0), GlossHouse.SIZE);
        due.is("a piece of eight", Due.piece(x, 2, 1, 2, 3, 4, 5, 6, 7, 8), 0);
        due.is("a piece of nine", Due.piece(x, 0, 1, 2, 3, 4, 5, 6, 7, 8, 9), GlossHouse.SIZE);
        x.scrap();
        due.is("size before sort", Due.piece(x, 0, 200, 2, 3, 4, 5, 6, 7, 8, 9), GlossHouse.SIZE);
        x.scrap();
        due.is("an own word", Due.piece(x, 0, 1, 100, 299), GlossHouse.KIND);
        due.is("refused: the draft stays", x.many(2), 3);
        x.scrap();
        for (int i = 1; i < 8; i++) {
            Due.piece(x, 0, i);
        }
        due.is("sort before full", Due.piece(x, 0, 200), GlossHouse.KIND);
        due.is("number before all", x.piece(3), GlossHouse.NUMBER);
        x.scrap();
        due.is("size before full", x.piece(0), GlossHouse.SIZE);
    }

    private static void drop() {
        GlossHouse x = Due.house(Due.row(1));
        Due.piece(x, 0, 1);
        Due.piece(x, 0, 2);
        due.is("drop()", x.drop(), 2);
        due.is("drop() again", x.drop(), 0);
        due.is("turn() without pieces", x.turn(), GlossHouse.NONE);
        due.is("the source stays", x.of(0, 10), 1);
        due.is("places begin anew", Due.piece(x, 0, 7), 0);
    }

    private static void turn() {
        GlossHouse x = new GlossHouse();
        Due.piece(x, 0, 1, 2, 3);
        Due.piece(x, 2, 4);
        due.is("turn() from nothing", x.turn(), 4);
        due.is("many(0)", x.many(0), 2);
        due.is("many(1)", x.many(1), 0);
        Due.piece(x, 0, 1, 2, 3);
        due.is("turn() to the same", x.turn(), 0);
        due.is("what isn't matched is no more", x.many(0), 1);
        due.is("turn() without pieces", x.turn(), GlossHouse.NONE);
        due.is("it changed nothing", x.many(0), 1);
    }

    private static void turnPrefersLesserPlaces() {
        GlossHouse x = Due.house(Due.row(1), Due.row(1));
        Due.piece(x, 0, 1);
        Due.piece(x, 0, 1);
        Due.piece(x, 0, 1);
        due.is("two of three are given", x.turn(), 1);
        due.is("the first has the lesser", x.from(0), 0);
        due.is("the second the other", x.from(1), 1);
        due.is("the third none", x.from(2), GlossHouse.NONE);
        GlossHouse y = Due.house(Due.row(1, 2), Due.row(3, 4));
        Due.piece(y, 0, 5, 6);
        due.is("as dear as none", y.turn(), 2);
        due.is("none stands behind all", y.from(0), 0);
        due.is("its story", y.story(0), 2);
    }

    private static void turnCostsLeastAsAWhole() {
        GlossHouse x = Due.house(Due.row(1, 2, 3, 4), Due.row(1, 2, 9, 9));
        Due.piece(x, 0, 1, 2, 3, 9);
        Due.piece(x, 0, 1, 2, 3, 4);
        due.is("the first leaves the second what fits it", x.turn(), 1);
        due.is("from(0)", x.from(0), 1);
        due.is("from(1)", x.from(1), 0);
        GlossHouse y = Due.house(Due.row(1, 2, 3));
        Due.piece(y, 0, 8);
        Due.piece(y, 0, 1, 2, 3);
        due.is("a short one rather has none", y.turn(), 1);
        due.is("from(0) of it", y.from(0), GlossHouse.NONE);
        due.is("from(1) of it", y.from(1), 0);
    }

    private static void turnTakesTextsOver() {
        GlossHouse x = Due.house(Due.row(1, 2), Due.row(3, 4, 5), Due.row(6, 7, 8));
        Due.twoHands(x);
        Due.reviewed(x, 0, 0, 201);
        Due.write(x, 0, 1, 1, 202, 203);
        Due.reviewed(x, 1, 0, 204);
        Due.write(x, 1, 2, 1, 205);
        Due.piece(x, 0, 3, 4, 9);
        Due.piece(x, 0, 1, 2);
        due.is("turn()", x.turn(), 1);
        due.is("unchanged: reviewed stays", x.text(1, 0, 0), 2);
        due.is("unchanged: drafted stays", x.text(1, 1, 0), 1);
        due.is("unchanged: its hand stays", x.text(1, 1, 1), 1);
        due.is("unchanged: its signs stay", x.text(1, 1, 11), 203);
        due.is("changed: reviewed is doubtful", x.text(0, 0, 0), 3);
        due.is("changed: drafted is doubtful", x.text(0, 2, 0), 3);
        due.is("changed: no text stays none", x.text(0, 1, 0), 0);
        due.is("changed: its hand stays", x.text(0, 2, 1), 1);
        due.is("changed: its signs stay", x.text(0, 0, 10), 204);
        Due.piece(x, 0, 3, 4, 9);
        due.is("turn() to the same", x.turn(), 0);
        due.is("doubtful stays doubtful", x.text(0, 0, 0), 3);
        Due.piece(x, 0, 40);
        Due.piece(x, 0, 3, 4, 9);
        x.turn();
        due.is("given none: no text", x.text(0, 0, 0), 0);
        due.is("given none: no signs", x.text(0, 0, 2), 0);
        due.is("given none: no hand", x.text(0, 0, 1), GlossHouse.NONE);
    }

    private static void turnToHeld() {
        GlossHouse x = Due.house(Due.row(1, 2));
        Due.twoHands(x);
        Due.reviewed(x, 0, 0, 201);
        Due.piece(x, 1, 1, 2);
        due.is("turn() to held", x.turn(), 0);
        due.is("it was given its piece all the same", x.from(0), 0);
        due.is("its story", x.story(0), 0);
        due.is("but takes no text over", x.text(0, 0, 0), 0);
        Due.piece(x, 0, 1, 2);
        x.turn();
        due.is("nor does the one behind it", x.text(0, 0, 0), 0);
    }

    private static void of() {
        GlossHouse x = new GlossHouse();
        Due.piece(x, 2, 1, 100, 3);
        Due.piece(x, 1, 5);
        due.is("of() is not of the next one", x.of(0, 0), GlossHouse.NUMBER);
        x.turn();
        due.is("of(0, 0)", x.of(0, 0), 2);
        due.is("of(1, 0)", x.of(1, 0), 1);
        due.is("of(0, 1)", x.of(0, 1), 3);
        due.is("of(1, 1)", x.of(1, 1), 1);
        due.is("of(0, 10)", x.of(0, 10), 1);
        due.is("of(0, 11)", x.of(0, 11), 100);
        due.is("of(0, 12)", x.of(0, 12), 3);
        due.is("of(0, 13)", x.of(0, 13), GlossHouse.NUMBER);
        due.is("of(0, 2)", x.of(0, 2), GlossHouse.NUMBER);
        due.is("of(0, 9)", x.of(0, 9), GlossHouse.NUMBER);
        due.is("of(2, 0)", x.of(2, 0), GlossHouse.NUMBER);
        for (int wrong : Due.BEYOND) {
            due.is("of(0, " + wrong + ")", x.of(0, wrong), GlossHouse.NUMBER);
            due.is("of(" + wrong + ", 0)", x.of(wrong, 0), GlossHouse.NUMBER);
        }
    }

    private static void far() {
        GlossHouse x = Due.house(Due.row(1, 2, 3, 4), Due.row(2, 3, 4, 5), Due.row(1, 3), Due.row(9),
                Due.row(4, 3, 2, 1), Due.row(1, 2, 3, 4, 5, 6, 7, 8));
        due.is("far of itself", x.far(0, 0), 0);
        due.is("one out, one in", x.far(0, 1), 2);
        due.is("two out", x.far(0, 2), 2);
        due.is("all but one out, one changed", x.far(0, 3), 4);
        due.is("the other way round", x.far(3, 0), 4);
        due.is("turned round", x.far(0, 4), 4);
        due.is("four in", x.far(0, 5), 4);
        due.is("from one to eight", x.far(3, 5), 8);
        due.is("far(0, 6)", x.far(0, 6), GlossHouse.NUMBER);
        due.is("far(6, 0)", x.far(6, 0), GlossHouse.NUMBER);
        for (int wrong : Due.BEYOND) {
            due.is("far(0, " + wrong + ")", x.far(0, wrong), GlossHouse.NUMBER);
            due.is("far(" + wrong + ", 0)", x.far(wrong, 0), GlossHouse.NUMBER);
        }
    }

    private static void fromAndStory() {
        GlossHouse x = Due.house(Due.row(1, 2, 3), Due.row(4, 5, 6), Due.row(7, 8, 9));
        due.is("at first: from", x.from(2), GlossHouse.NONE);
        due.is("at first: story", x.story(2), 3);
        Due.piece(x, 0, 1, 2, 3);
        Due.piece(x, 0, 7, 8, 9);
        Due.piece(x, 0, 30);
        Due.piece(x, 0, 4, 5, 40);
        due.is("turn()", x.turn(), 2);
        int[] from = {0, 2, GlossHouse.NONE, 1};
        int[] story = {0, 1, 3, 2};
        for (int i = 0; i < 4; i++) {
            due.is("from(" + i + ")", x.from(i), from[i]);
            due.is("story(" + i + ")", x.story(i), story[i]);
        }
        due.is("from(4)", x.from(4), GlossHouse.NUMBER);
        due.is("story(4)", x.story(4), GlossHouse.NUMBER);
        for (int wrong : Due.BEYOND) {
            due.is("from(" + wrong + ")", x.from(wrong), GlossHouse.NUMBER);
            due.is("story(" + wrong + ")", x.story(wrong), GlossHouse.NUMBER);
        }
        Due.piece(x, 0, 1, 2, 50);
        x.turn();
        due.is("changed in its place: from", x.from(0), 0);
        due.is("changed in its place: story", x.story(0), 2);
    }
}
