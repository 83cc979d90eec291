/** Promises 1 to 10 at their edges: each test stands under the sentence that it holds. */
public final class SourceEdgesTest {
    private static final int NUMBER = GlossHouse.NUMBER;
    private static final int FULL = GlossHouse.FULL;
    private static final int KIND = GlossHouse.KIND;
    private static final int NONE = GlossHouse.NONE;
    private static final int SIZE = GlossHouse.SIZE;

    private static final int[] EIGHT = {1, 2, 3, 4, 5, 6, 7, 8};
    private static final int[] NINE = {1, 2, 3, 4, 5, 6, 7, 8, 9};
    private static final int[] TEN = {1, 2, 3, 4, 5, 6, 7, 8, 9, 10};
    private static final int[] TEN_OF_A_TEXT = {200, 201, 202, 203, 204, 205, 206, 299, 100, 103};

    private static final Due due = new Due();
    private static final Edges none = new Edges(due, "a new house", x -> { });
    private static final Edges rich = new Edges(due, "a rich house", x -> Houses.rich(x, 200, 100));
    private static final Edges full = new Edges(due, "a full house", x -> Houses.full(x, TEN_OF_A_TEXT));

    public static void main(String[] args) {
        newHasNoPieces();
        newHasNoHands();
        newHasNoTerms();
        newHasAnEmptyDraft();
        newHasAnEmptyMemory();
        newHasNothingKept();
        newIsNotChangedByRefusals();
        newSharesNothing();
        signComesBehind();
        signIsNone();
        signIsFull();
        signIsNoneBeforeFull();
        scrapOfNone();
        scrapOfTen();
        pieceEmptiesTheDraft();
        pieceOfNoSuchKind();
        pieceOfTooFew();
        pieceOfTooMany();
        pieceWithAnOwnWord();
        pieceIsFull();
        pieceRefusalsInOrder();
        dropOfNone();
        dropOfEight();
        turnWithoutPieces();
        turnLeavesTheRest();
        ofNoSuchPiece();
        ofAnotherWhat();
        ofTheLastSign();
        farOfNoSuchPiece();
        fromNoSuchPiece();
        fromNone();
        fromTheLast();
        storyOfNoSuchPiece();
        storyOfEachSort();
        askingChangesNothing();
        due.end();
    }

    /** "No PIECES". */
    private static void newHasNoPieces() {
        none.answers(0, "many", 0);
        none.answers(0, "many", 1);
        none.answers(NUMBER, "of", 0, 0);
        none.answers(NUMBER, "from", 0);
        none.answers(NUMBER, "story", 0);
        none.answers(NUMBER, "far", 0, 0);
        none.answers(NUMBER, "text", 0, 0, 0);
        none.answers(NUMBER, "effort", 0, 0);
        none.answers(NUMBER, "plan", 0, 0);
        none.answers(NONE, "turn");
        none.answers(0, "drop");
        for (int t = 0; t < 3; t++) {
            none.answers(NONE, "release", t, 0);
            none.answers(0, "many", 9 + t);
            none.answers(0, "planned", t, 2);
        }
        for (int state = 6; state <= 8; state++) {
            none.answers(0, "many", state);
        }
    }

    /** "No .. HANDS". */
    private static void newHasNoHands() {
        none.answers(0, "many", 3);
        none.answers(NUMBER, "hours", 0, 0);
        none.answers(0, "hand", 1, 0, 1);
    }

    /** "No .. TERMS". */
    private static void newHasNoTerms() {
        GlossHouse x = none.made();
        due.is("many(4)", x.many(4), 0);
        for (int word = 0; word <= 99; word++) {
            for (int t = 0; t < 3; t++) {
                due.is("new: " + Calls.told("forget", word, t), x.forget(word, t), NONE);
            }
        }
    }

    /** "THE DRAFT .. are empty". */
    private static void newHasAnEmptyDraft() {
        none.answers(0, "many", 2);
        none.answers(0, "scrap");
        none.answers(SIZE, "piece", 0);
        none.answers(1, "sign", 0);
    }

    /** ".. and THE MEMORY are empty". */
    private static void newHasAnEmptyMemory() {
        none.answers(0, "many", 5);
        none.answers(NUMBER, "memory", 0, 0);
        GlossHouse x = Due.house(Due.row(1));
        for (int t = 0; t < 3; t++) {
            due.is("nearest in " + t, x.nearest(0, t, 0), NONE);
        }
    }

    /** "Nothing is kept." */
    private static void newHasNothingKept() {
        none.changesNothing(NONE, "back");
    }

    /** "A call that is refused .. changes nothing": here of a house that has nothing. */
    private static void newIsNotChangedByRefusals() {
        none.changesNothing(NUMBER, "sign", -1);
        none.changesNothing(NUMBER, "piece", 3);
        none.changesNothing(SIZE, "piece", 0);
        none.changesNothing(NONE, "turn");
        none.changesNothing(NUMBER, "hand", 0, 0, 1);
        none.changesNothing(NUMBER, "hours", 0, 5);
        none.changesNothing(NUMBER, "term", 100, 0, 200);
        none.changesNothing(NONE, "forget", 0, 0);
        none.changesNothing(NUMBER, "write", 0, 0, 0);
        none.changesNothing(NUMBER, "review", 0, 0, 0);
        none.changesNothing(NUMBER, "reuse", 0, 0, 0);
        none.changesNothing(NUMBER, "limit", 0);
    }

    /** "A new object": what happens to another one is nothing to it. */
    private static void newSharesNothing() {
        GlossHouse x = new GlossHouse();
        GlossHouse other = full.made();
        other.keep();
        for (int what = 0; what <= 11; what++) {
            due.is("many(" + what + ") beside a full one", x.many(what), 0);
        }
        due.is("back() beside one that kept", x.back(), NONE);
        due.is("limit(1) beside another", x.limit(1), 6);
        due.is("limit(1) of the other", other.limit(1), 6);
    }

    /** "A SIGN comes behind THE DRAFT: how many it has." */
    private static void signComesBehind() {
        GlossHouse x = new GlossHouse();
        for (int i = 0; i < 8; i++) {
            due.is("sign " + (i + 1), x.sign(90 - i), i + 1);
        }
        x.piece(0);
        x.turn();
        for (int i = 0; i < 8; i++) {
            due.is("in its place: " + i, x.of(0, 10 + i), 90 - i);
        }
    }

    /** "NUMBER: it is none": SIGNS are 0 to 103 and 200 to 299. */
    private static void signIsNone() {
        rich.range(0, 0, 103, "sign", 0);
        rich.range(0, 200, 299, "sign", 0);
        none.range(0, 0, 103, "sign", 0);
        none.range(0, 200, 299, "sign", 0);
    }

    /** "FULL": 10 are the most. */
    private static void signIsFull() {
        Edges nine = new Edges(due, "a draft of nine", x -> Houses.rich(x, NINE));
        nine.answers(10, "sign", 10);
        nine.answers(10, "sign", 103);
        nine.answers(10, "sign", 299);
        full.changesNothing(FULL, "sign", 0);
        full.changesNothing(FULL, "sign", 103);
        full.changesNothing(FULL, "sign", 200);
    }

    /** "Of several refusals .. the first one named": NUMBER, FULL. */
    private static void signIsNoneBeforeFull() {
        for (int sign : new int[] {Integer.MIN_VALUE, -1, 104, 199, 300, Integer.MAX_VALUE}) {
            full.changesNothing(NUMBER, "sign", sign);
        }
    }

    /** "THE DRAFT is empty: how many SIGNS it had": 0. */
    private static void scrapOfNone() {
        Edges empty = new Edges(due, "an empty draft", x -> Houses.rich(x));
        empty.changesNothing(0, "scrap");
    }

    /** "THE DRAFT is empty: how many SIGNS it had": 10, after which 10 more may come. */
    private static void scrapOfTen() {
        GlossHouse x = full.made();
        due.is("scrap() of ten", x.scrap(), 10);
        due.is("many(2) then", x.many(2), 0);
        due.is("scrap() again", x.scrap(), 0);
        for (int i = 1; i <= 10; i++) {
            due.is("sign again", x.sign(i), i);
        }
        due.is("an eleventh", x.sign(11), FULL);
        due.is("the next one stays", x.many(1), 8);
        due.is("the source stays", x.many(0), 8);
    }

    /** "THE DRAFT is one more PIECE of THE NEXT one (and empty then): its place." */
    private static void pieceEmptiesTheDraft() {
        GlossHouse x = new GlossHouse();
        Due.signs(x, EIGHT);
        due.is("the first place", x.piece(0), 0);
        due.is("empty then", x.many(2), 0);
        due.is("no second one without signs", x.piece(0), SIZE);
        due.is("one", x.many(1), 1);
        due.is("none of the source", x.many(0), 0);
    }

    /** "NUMBER: there is no such KIND": 0, 1 and 2 are. */
    private static void pieceOfNoSuchKind() {
        Edges able = new Edges(due, "a draft for a piece", x -> Houses.rich(x, EIGHT));
        able.range(0, 0, 2, "piece", 0);
        for (int kind = 0; kind <= 2; kind++) {
            able.answers(2, "piece", kind);
        }
    }

    /** "SIZE: it hasn't 1 to 8 SIGNS": 0, and 1. */
    private static void pieceOfTooFew() {
        new Edges(due, "an empty draft", x -> Houses.rich(x)).changesNothing(SIZE, "piece", 0);
        new Edges(due, "a draft of one", x -> Houses.rich(x, 0)).answers(2, "piece", 0);
        new Edges(due, "a hole", x -> Houses.rich(x, 103)).answers(2, "piece", 0);
    }

    /** "SIZE: it hasn't 1 to 8 SIGNS": 8, 9 and 10. */
    private static void pieceOfTooMany() {
        new Edges(due, "a draft of eight", x -> Houses.rich(x, EIGHT)).answers(2, "piece", 0);
        new Edges(due, "a draft of nine", x -> Houses.rich(x, NINE)).changesNothing(SIZE, "piece", 0);
        new Edges(due, "a draft of ten", x -> Houses.rich(x, TEN)).changesNothing(SIZE, "piece", 0);
    }

    /** "KIND: one is an OWN WORD": the first of them or the last, at the front or behind. */
    private static void pieceWithAnOwnWord() {
        int[][] drafts = {{200}, {299}, {250, 1}, {1, 200}, {1, 299, 2}, {100, 299}, {1, 2, 3, 4, 5, 6, 7, 200}};
        for (int[] draft : drafts) {
            new Edges(due, "an own word", x -> Houses.rich(x, draft)).changesNothing(KIND, "piece", 0);
        }
        new Edges(due, "none of them", x -> Houses.rich(x, 99, 100, 0, 103)).answers(2, "piece", 0);
    }

    /** "FULL": 8 are the most. */
    private static void pieceIsFull() {
        Edges one = new Edges(due, "a full house, a draft of one", x -> Houses.full(x, 1));
        for (int kind = 0; kind <= 2; kind++) {
            one.changesNothing(FULL, "piece", kind);
        }
        GlossHouse x = one.made();
        x.turn();
        due.is("the draft stays when the next one goes", x.piece(0), 0);
    }

    /** "Of several refusals .. the first one named": NUMBER, SIZE, KIND, FULL. */
    private static void pieceRefusalsInOrder() {
        Edges empty = new Edges(due, "full, an empty draft", x -> Houses.full(x));
        empty.changesNothing(NUMBER, "piece", 3);
        empty.changesNothing(SIZE, "piece", 2);
        Edges nine = new Edges(due, "full, nine with an own word",
                x -> Houses.full(x, 200, 1, 2, 3, 4, 5, 6, 7, 8));
        nine.changesNothing(NUMBER, "piece", -1);
        nine.changesNothing(SIZE, "piece", 0);
        Edges own = new Edges(due, "full, an own word", x -> Houses.full(x, 1, 299));
        own.changesNothing(NUMBER, "piece", Integer.MAX_VALUE);
        own.changesNothing(KIND, "piece", 0);
        Edges able = new Edges(due, "full, a draft for a piece", x -> Houses.full(x, 1));
        able.changesNothing(NUMBER, "piece", Integer.MIN_VALUE);
        able.changesNothing(FULL, "piece", 0);
        Edges roomy = new Edges(due, "room, nine with an own word",
                x -> Houses.rich(x, 1, 2, 3, 4, 5, 6, 7, 8, 200));
        roomy.changesNothing(NUMBER, "piece", 3);
        roomy.changesNothing(SIZE, "piece", 0);
    }

    /** "THE NEXT one loses its PIECES: how many": 0. */
    private static void dropOfNone() {
        none.changesNothing(0, "drop");
        GlossHouse x = rich.made();
        x.drop();
        due.is("drop() again", x.drop(), 0);
        due.is("the source stays", x.many(0), 4);
        due.is("the draft stays", x.many(2), 2);
    }

    /** "THE NEXT one loses its PIECES: how many": 8, after which 8 more may come. */
    private static void dropOfEight() {
        GlossHouse x = full.made();
        due.is("drop() of eight", x.drop(), 8);
        due.is("many(1) then", x.many(1), 0);
        due.is("turn() then", x.turn(), NONE);
        due.is("the source stays", x.many(0), 8);
        due.is("its texts stay", x.many(7), 20);
        due.is("the draft stays", x.scrap(), 10);
        for (int p = 0; p < 8; p++) {
            due.is("piece again", Due.piece(x, 0, p), p);
        }
        due.is("a ninth", Due.piece(x, 0, 8), FULL);
    }

    /** "NONE: THE NEXT one has no PIECES." */
    private static void turnWithoutPieces() {
        Edges dropped = new Edges(due, "dropped", x -> {
            Houses.rich(x, 200);
            x.drop();
        });
        dropped.changesNothing(NONE, "turn");
        Edges turned = new Edges(due, "just turned", x -> {
            Houses.rich(x, 200);
            x.turn();
        });
        turned.changesNothing(NONE, "turn");
        new Edges(due, "one piece", x -> Due.piece(x, 0, 1)).answers(1, "turn");
    }

    /** "TO TURN": what isn't told there stays. */
    private static void turnLeavesTheRest() {
        GlossHouse x = full.made();
        int cost = x.turn();
        due.is("no sign is shared", cost, 8);
        int[] many = {8, 0, 10, 5, 10, 20};
        for (int what = 0; what < many.length; what++) {
            due.is("many(" + what + ") after turn()", x.many(what), many[what]);
        }
        due.is("what was kept stays", x.back(), 1);
        due.is("with its texts", x.many(7), 20);
    }

    /** "NUMBER: there is none such": PIECES are 0 to 3 here, 0 to 7 when it is full. */
    private static void ofNoSuchPiece() {
        rich.range(0, 0, 3, "of", 0, 0);
        rich.range(0, 0, 3, "of", 0, 10);
        full.range(0, 0, 7, "of", 0, 1);
    }

    /** "NUMBER: .. another what": 0, 1, and 10 on as far as it has SIGNS. */
    private static void ofAnotherWhat() {
        rich.range(1, 0, 1, "of", 0, 0);
        rich.range(1, 10, 12, "of", 0, 0);
        rich.range(1, 10, 10, "of", 2, 0);
        for (int what = 2; what <= 9; what++) {
            rich.answers(NUMBER, "of", 0, what);
        }
        for (int what : new int[] {20, 110, Integer.MIN_VALUE + 10, Integer.MIN_VALUE + 9}) {
            rich.answers(NUMBER, "of", 0, what);
        }
    }

    /** "10 + i: SIGN i": the eighth of eight. */
    private static void ofTheLastSign() {
        Edges eight = new Edges(due, "a piece of eight", x -> {
            Due.piece(x, 0, EIGHT);
            x.turn();
        });
        for (int i = 0; i < 8; i++) {
            eight.answers(i + 1, "of", 0, 10 + i);
        }
        eight.answers(8, "of", 0, 1);
        eight.range(1, 10, 17, "of", 0, 0);
    }

    /** "NUMBER: there is no such one (either)." */
    private static void farOfNoSuchPiece() {
        rich.range(0, 0, 3, "far", 0, 0);
        rich.range(1, 0, 3, "far", 0, 0);
        full.range(0, 0, 7, "far", 0, 7);
        full.range(1, 0, 7, "far", 7, 0);
        rich.changesNothing(NUMBER, "far", 4, 4);
        rich.changesNothing(NUMBER, "far", -1, -1);
    }

    /** "NUMBER: there is none such" of from(). */
    private static void fromNoSuchPiece() {
        rich.range(0, 0, 3, "from", 0);
        full.range(0, 0, 7, "from", 0);
    }

    /** "NONE: it was given none." */
    private static void fromNone() {
        rich.changesNothing(NONE, "from", 3);
        rich.changesNothing(0, "from", 0);
        full.changesNothing(NONE, "from", 7);
        GlossHouse x = new GlossHouse();
        for (int turn = 0; turn < 4; turn++) {
            Due.piece(x, 0, 1, 2);
            Due.piece(x, 0, 3, 4);
            x.turn();
        }
        due.is("given one", x.from(1), 1);
        for (int turn = 0; turn < 2; turn++) {
            Due.piece(x, 0, 1, 2);
            x.turn();
            Due.piece(x, 0, 1, 2);
            Due.piece(x, 0, 3, 4);
            x.turn();
            due.is("none, though others in its place were given one", x.from(1), NONE);
            due.is("its story", x.story(1), 3);
        }
    }

    /** "The place of the PIECE that a PIECE of THE SOURCE was given": from the last to the first and back. */
    private static void fromTheLast() {
        GlossHouse x = new GlossHouse();
        for (int p = 0; p < 8; p++) {
            Due.piece(x, 0, p, p + 10);
        }
        x.turn();
        for (int p = 7; p >= 0; p--) {
            Due.piece(x, 0, p, p + 10);
        }
        due.is("turned round", x.turn(), 0);
        for (int p = 0; p < 8; p++) {
            due.is("from(" + p + ")", x.from(p), 7 - p);
            due.is("story(" + p + ")", x.story(p), 1);
        }
    }

    /** "NUMBER" of story(). */
    private static void storyOfNoSuchPiece() {
        rich.range(0, 0, 3, "story", 0);
        full.range(0, 0, 7, "story", 0);
    }

    /** "0 FAR was 0, and its place the same, 1 .. another one, 2 FAR was above 0, 3 it was given none." */
    private static void storyOfEachSort() {
        rich.answers(0, "story", 0);
        rich.answers(2, "story", 1);
        rich.answers(0, "story", 2);
        rich.answers(3, "story", 3);
        GlossHouse x = Due.house(Due.row(1, 2), Due.row(3, 4));
        Due.piece(x, 0, 3, 4);
        Due.piece(x, 0, 1, 9);
        x.turn();
        due.is("far 0, another place", x.story(0), 1);
        due.is("far 1, another place", x.story(1), 2);
    }

    /** Calls that ask are no changes. */
    private static void askingChangesNothing() {
        rich.changesNothing(2, "of", 1, 0);
        rich.changesNothing(2, "of", 1, 1);
        rich.changesNothing(100, "of", 0, 12);
        rich.changesNothing(3, "far", 0, 1);
        rich.changesNothing(1, "from", 1);
        rich.changesNothing(2, "story", 1);
    }
}
