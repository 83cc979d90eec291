/** Promises 21 to 29 at their edges: each test stands under the sentence that it holds. */
public final class WorkEdgesTest {
    private static final int NUMBER = GlossHouse.NUMBER;
    private static final int NONE = GlossHouse.NONE;

    private static final Due due = new Due();
    private static final Edges none = new Edges(due, "a new house", x -> { });
    private static final Edges rich = new Edges(due, "a rich house", x -> Houses.rich(x, 200, 100));
    private static final Edges full = new Edges(due, "a full house", x -> Houses.full(x, 1, 2));

    public static void main(String[] args) {
        nearestOfOtherNumbers();
        nearestOfAnotherWhat();
        nearestOfNone();
        nearestIsTold();
        memoryOfNoSuchNumber();
        memoryOfAnotherWhat();
        memoryOfTheLastSigns();
        effortOfOtherNumbers();
        effortOfNoNeed();
        planOfOtherNumbers();
        planGivesNone();
        plannedOfOtherNumbers();
        plannedOfNothing();
        releaseOfNoSuchTongue();
        releaseOfNoSuchSign();
        releaseOfTheMostSigns();
        manyOfAnotherWhat();
        manyOfTheMost();
        keepOfNothing();
        keepChangesNothingElse();
        keepTakesTheLatest();
        backWithoutKeep();
        backStays();
        backLeavesTheRest();
        backToAFullHouse();
        backToWhereTheyCameFrom();
        due.end();
    }

    // ---- promise 21

    /** "NUMBER: there is no such PIECE, TONGUE", which comes ahead of NONE. */
    private static void nearestOfOtherNumbers() {
        rich.range(0, 0, 3, "nearest", 0, 0, 0);
        rich.range(1, 0, 2, "nearest", 0, 0, 0);
        rich.range(0, 0, 3, "nearest", 0, 1, 0);
        full.range(0, 0, 7, "nearest", 0, 0, 1);
        none.changesNothing(NUMBER, "nearest", 0, 0, 0);
    }

    /** "NUMBER: .. another what": 0 to 2; it comes ahead of NONE. */
    private static void nearestOfAnotherWhat() {
        rich.range(2, 0, 2, "nearest", 0, 0, 0);
        rich.range(2, 0, 2, "nearest", 0, 1, 0);
        rich.answers(NUMBER, "nearest", 0, 0, 10);
    }

    /** "NONE": nothing of that TONGUE is remembered. */
    private static void nearestOfNone() {
        for (int what = 0; what <= 2; what++) {
            rich.changesNothing(NONE, "nearest", 0, 1, what);
            rich.changesNothing(NONE, "nearest", 3, 2, what);
        }
    }

    /** "What = 0 its number, 1 how FAR, 2 how many SIGNS its TEXT has." */
    private static void nearestIsTold() {
        int[][] told = {{0, 0, 2}, {1, 1, 1}, {1, 2, 1}, {2, 0, 2}};
        for (int p = 0; p < 4; p++) {
            for (int what = 0; what <= 2; what++) {
                rich.changesNothing(told[p][what], "nearest", p, 0, what);
            }
        }
    }

    // ---- promise 22

    /** "NUMBER: there is none such": 0 to 2 here, 0 to 19 when it is full. */
    private static void memoryOfNoSuchNumber() {
        for (int what : new int[] {0, 1, 2, 10, 20}) {
            rich.range(0, 0, 2, "memory", 0, what);
        }
        full.range(0, 0, 19, "memory", 0, 0);
        none.changesNothing(NUMBER, "memory", 0, 0);
    }

    /** "NUMBER: .. another what": 0 to 2, 10 on and 20 on as far as there are SIGNS. */
    private static void memoryOfAnotherWhat() {
        rich.range(1, 0, 2, "memory", 0, 0);
        rich.range(1, 10, 12, "memory", 0, 0);
        rich.range(1, 20, 21, "memory", 0, 0);
        rich.range(1, 10, 11, "memory", 1, 0);
        rich.range(1, 20, 20, "memory", 1, 0);
        for (int what = 3; what <= 9; what++) {
            rich.answers(NUMBER, "memory", 0, what);
        }
        for (int what = 13; what <= 19; what++) {
            rich.answers(NUMBER, "memory", 0, what);
        }
        for (int what = 22; what <= 31; what++) {
            rich.answers(NUMBER, "memory", 0, what);
        }
        rich.answers(NUMBER, "memory", 0, Integer.MIN_VALUE + 10);
        rich.answers(NUMBER, "memory", 0, Integer.MIN_VALUE + 20);
    }

    /** "10 + i: SIGN i of the PIECE, 20 + i of the TEXT": the eighth of eight, the tenth of ten. */
    private static void memoryOfTheLastSigns() {
        Edges most = new Edges(due, "eight and ten", x -> {
            Due.piece(x, 0, 1, 2, 3, 4, 5, 6, 7, 99);
            x.turn();
            Due.twoHands(x);
            Due.reviewed(x, 0, 2, 200, 201, 202, 203, 204, 205, 206, 207, 208, 299);
        });
        most.answers(2, "memory", 0, 0);
        most.answers(8, "memory", 0, 1);
        most.answers(10, "memory", 0, 2);
        most.answers(99, "memory", 0, 17);
        most.answers(NUMBER, "memory", 0, 18);
        most.answers(NUMBER, "memory", 0, 19);
        most.answers(200, "memory", 0, 20);
        most.answers(299, "memory", 0, 29);
        most.answers(NUMBER, "memory", 0, 30);
    }

    // ---- promise 23

    /** "NUMBER: there is no such PIECE, TONGUE." */
    private static void effortOfOtherNumbers() {
        rich.range(0, 0, 3, "effort", 0, 0);
        rich.range(1, 0, 2, "effort", 0, 0);
        rich.range(1, 0, 2, "effort", 2, 0);
        full.range(0, 0, 7, "effort", 0, 0);
    }

    /** "0: it doesn't NEED work there": HELD, or REVIEWED; else it is above 0. */
    private static void effortOfNoNeed() {
        int[][] efforts = {{0, 3, 3}, {2, 2, 2}, {0, 0, 0}, {0, 3, 3}};
        for (int p = 0; p < 4; p++) {
            for (int t = 0; t < 3; t++) {
                rich.changesNothing(efforts[p][t], "effort", p, t);
            }
        }
    }

    // ---- promise 24

    /** "NUMBER: there is no such TONGUE, PIECE", which comes ahead of NONE. */
    private static void planOfOtherNumbers() {
        rich.range(0, 0, 2, "plan", 0, 1);
        rich.range(0, 0, 2, "plan", 0, 2);
        rich.range(1, 0, 3, "plan", 0, 0);
        full.range(1, 0, 7, "plan", 2, 0);
        none.changesNothing(NUMBER, "plan", 0, 0);
    }

    /** "NONE: it gives it none": no need of work, HELD, no HANDS, no HOURS. */
    private static void planGivesNone() {
        int[][] hands = {{NONE, 0, 0}, {0, 0, 0}, {NONE, NONE, NONE}, {NONE, 0, 0}};
        for (int p = 0; p < 4; p++) {
            for (int t = 0; t < 3; t++) {
                rich.changesNothing(hands[p][t], "plan", t, p);
            }
        }
        Edges handless = new Edges(due, "no hands", x -> {
            Due.piece(x, 0, 1);
            x.turn();
        });
        handless.changesNothing(NONE, "plan", 0, 0);
        Edges idle = new Edges(due, "no hours", x -> {
            Houses.rich(x);
            x.hours(0, 0);
            x.hours(1, 0);
            x.hours(2, 0);
        });
        for (int t = 0; t < 3; t++) {
            for (int p = 0; p < 4; p++) {
                idle.answers(NONE, "plan", t, p);
            }
            idle.answers(0, "planned", t, 0);
            idle.answers(0, "planned", t, 1);
        }
    }

    // ---- promise 25

    /** "NUMBER: there is no such TONGUE, another what." */
    private static void plannedOfOtherNumbers() {
        rich.range(0, 0, 2, "planned", 0, 0);
        rich.range(1, 0, 2, "planned", 0, 0);
        none.range(0, 0, 2, "planned", 0, 0);
        none.range(1, 0, 2, "planned", 0, 0);
        rich.changesNothing(NUMBER, "planned", 3, 3);
    }

    /** "How many PIECES have a HAND, 1 what it COSTS, 2 how many NEED work": of all, some, and none. */
    private static void plannedOfNothing() {
        int[][] planned = {{1, 2, 1}, {3, 8, 3}, {3, 8, 3}};
        for (int t = 0; t < 3; t++) {
            for (int what = 0; what <= 2; what++) {
                rich.changesNothing(planned[t][what], "planned", t, what);
                none.answers(0, "planned", t, what);
            }
        }
        full.answers(0, "planned", 0, 2);
        full.answers(0, "planned", 0, 0);
        full.answers(4, "planned", 2, 2);
    }

    // ---- promise 26

    /** "NUMBER: there is no such TONGUE", which comes ahead of NONE. */
    private static void releaseOfNoSuchTongue() {
        rich.range(0, 0, 2, "release", 0, 0);
        for (int tongue : Edges.beyond(0, 2)) {
            for (int i : Edges.beyond(0, 6)) {
                rich.answers(NUMBER, "release", tongue, i);
            }
            none.answers(NUMBER, "release", tongue, 0);
        }
    }

    /** "NONE: there is none such": ahead of the first SIGN, and behind the last. */
    private static void releaseOfNoSuchSign() {
        int[][] signs = {{211, 100, 3, 6, 5, 205, 206}, {1, 2, 100, 3, 6, 5, 7, 8, 9}, {1, 2, 100, 3, 6, 5, 7, 8, 9}};
        for (int t = 0; t < 3; t++) {
            for (int i = 0; i < signs[t].length; i++) {
                rich.answers(signs[t][i], "release", t, i);
            }
            rich.answers(signs[t].length, "many", 9 + t);
            for (int i : Edges.beyond(0, signs[t].length - 1)) {
                rich.changesNothing(NONE, "release", t, i);
            }
            none.changesNothing(NONE, "release", t, 0);
            none.changesNothing(NONE, "release", t, -1);
        }
    }

    /** "For each PIECE, in order, the SIGNS of its TEXT": 8 of 10 SIGNS, or 8 of 8 of their own. */
    private static void releaseOfTheMostSigns() {
        Edges most = new Edges(due, "the most signs", x -> {
            Due.twoHands(x);
            for (int p = 0; p < 8; p++) {
                Due.piece(x, 0, p, p, p, p, p, p, p, p + 50);
            }
            x.turn();
            for (int p = 0; p < 8; p++) {
                Due.reviewed(x, p, 1, 200, 201, 202, 203, 204, 205, 206, 207, 208, 210 + p);
            }
        });
        most.answers(64, "many", 9);
        most.answers(80, "many", 10);
        most.answers(57, "release", 0, 63);
        most.answers(NONE, "release", 0, 64);
        most.answers(217, "release", 1, 79);
        most.answers(210, "release", 1, 9);
        most.answers(200, "release", 1, 10);
        most.answers(NONE, "release", 1, 80);
    }

    // ---- promise 27

    /** "NUMBER: another what": 0 to 11. */
    private static void manyOfAnotherWhat() {
        rich.range(0, 0, 11, "many", 0);
        none.range(0, 0, 11, "many", 0);
        rich.answers(NUMBER, "many", Integer.MIN_VALUE + 9);
    }

    /** "How many": of a rich house and a full one. */
    private static void manyOfTheMost() {
        int[] some = {4, 2, 2, 4, 3, 3, 1, 2, 2, 7, 9, 9};
        int[] all = {8, 8, 2, 5, 10, 20, 0, 20, 0, 8, 8, 12};
        for (int what = 0; what <= 11; what++) {
            rich.changesNothing(some[what], "many", what);
            full.changesNothing(all[what], "many", what);
        }
    }

    // ---- promise 28

    /** "THE SOURCE with its TEXTS, and THE MEMORY, are kept: 1": be they empty. */
    private static void keepOfNothing() {
        none.answers(1, "keep");
        GlossHouse x = new GlossHouse();
        x.keep();
        Houses.full(x);
        due.is("keep() when full", x.keep(), 1);
        GlossHouse y = new GlossHouse();
        y.keep();
        Due.twoHands(y);
        Due.piece(y, 0, 1);
        y.turn();
        Due.reviewed(y, 0, 0, 200);
        due.is("back() to nothing", y.back(), 1);
        due.is("no pieces", y.many(0), 0);
        due.is("no memory", y.many(5), 0);
        due.is("no texts", y.many(7), 0);
        due.is("back() to nothing again", y.back(), 1);
    }

    /** ".. are kept": all that can be seen stays as it was, but for what comes back. */
    private static void keepChangesNothingElse() {
        for (String part : Reading.PARTS.keySet()) {
            if (!part.startsWith("kept")) {
                GlossHouse x = rich.made();
                x.keep();
                due.same(part + " after keep()", Reading.of(part, x), Reading.of(part, rich.made()));
            }
        }
    }

    /** "What was kept latest": each keep() is in place of the one before. */
    private static void keepTakesTheLatest() {
        GlossHouse x = new GlossHouse();
        for (int word = 0; word < 30; word++) {
            Due.piece(x, 0, word);
            x.turn();
            due.is("keep() " + word, x.keep(), 1);
        }
        Due.piece(x, 0, 90);
        x.turn();
        x.back();
        due.is("the latest", x.of(0, 10), 29);
    }

    // ---- promise 29

    /** "NONE: nothing is kept." */
    private static void backWithoutKeep() {
        Edges unkept = new Edges(due, "nothing kept", x -> {
            Due.twoHands(x);
            Due.piece(x, 0, 1);
            x.turn();
            Due.reviewed(x, 0, 0, 200);
            Due.piece(x, 0, 2);
            Due.signs(x, 201);
        });
        unkept.changesNothing(NONE, "back");
        none.changesNothing(NONE, "back");
    }

    /** "They become what was kept latest (which stays)": back as often as wanted, whatever came between. */
    private static void backStays() {
        for (String part : new String[] {"pieces", "texts", "memory", "releases"}) {
            GlossHouse once = rich.made();
            once.back();
            GlossHouse often = rich.made();
            for (int i = 0; i < 5; i++) {
                due.is("back()", often.back(), 1);
                Due.write(often, 0, 0, 1, 280 + i, 100);
                often.review(0, 0, 0);
                often.turn();
            }
            often.back();
            due.same(part + " after back() again", Reading.of(part, often), Reading.of(part, once));
        }
    }

    /** "They become ..": THE DRAFT, THE NEXT one, HANDS, TERMS and LIMIT are not among them. */
    private static void backLeavesTheRest() {
        GlossHouse x = rich.made();
        due.is("back()", x.back(), 1);
        int[] many = {3, 2, 2, 4, 3, 2, 1, 2, 0, 4, 6, 6};
        for (int what = 0; what <= 11; what++) {
            due.is("many(" + what + ") after back()", x.many(what), many[what]);
        }
        due.is("the limit", x.limit(1), 4);
        due.is("the hours", x.hours(1, 0), 5);
        due.is("the draft", x.write(0, 1, 0), 2);
        due.is("its sign", x.text(0, 1, 11), 100);
        due.is("a term", x.forget(7, 2), 2);
        due.is("the next one", x.turn(), 2);
        due.is("its kind", x.of(0, 0), 2);
        due.is("its sign", x.of(0, 12), 103);
    }

    /** ".. become what was kept": 8 PIECES, 20 TEXTS, 20 of THE MEMORY. */
    private static void backToAFullHouse() {
        for (String part : new String[] {"pieces", "texts", "memory", "nearest and work", "releases"}) {
            GlossHouse x = full.made();
            x.keep();
            x.turn();
            x.scrap();
            Due.reviewed(x, 0, 0, 210, 299);
            x.back();
            due.same(part + " of a full house", Reading.of(part, x), Reading.of(part, full.made()));
        }
    }

    /** "THE SOURCE .. become what was kept": with from() and story() of each sort, on top of any other. */
    private static void backToWhereTheyCameFrom() {
        GlossHouse x = Due.house(Due.row(1, 2), Due.row(3, 4), Due.row(5, 6));
        Due.piece(x, 0, 1, 2);
        Due.piece(x, 0, 5, 6);
        Due.piece(x, 0, 3, 9);
        Due.piece(x, 0, 40);
        x.turn();
        x.keep();
        int[] from = {0, 2, 1, NONE};
        int[] story = {0, 1, 2, 3};
        for (int shift = 0; shift < 4; shift++) {
            int[][] rows = {{1, 2}, {5, 6}, {3, 9}, {40}};
            for (int p = 0; p < 4; p++) {
                Due.piece(x, 0, rows[(p + shift) % 4]);
            }
            x.turn();
            x.back();
            for (int p = 0; p < 4; p++) {
                due.is("from(" + p + ") after back()", x.from(p), from[p]);
                due.is("story(" + p + ") after back()", x.story(p), story[p]);
            }
        }
        GlossHouse y = Due.house(Due.row(1, 2));
        Due.piece(y, 0, 1, 3);
        y.turn();
        y.keep();
        Due.piece(y, 0, 1, 3);
        y.turn();
        due.is("as it was", y.story(0), 0);
        y.back();
        due.is("changed, when it came back", y.story(0), 2);
    }
}
