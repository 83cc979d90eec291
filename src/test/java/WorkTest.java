/** Promises 23 to 27: effort, plan, planned, release, many. */
public final class WorkTest {
    private static final Due due = new Due();

    public static void main(String[] args) {
        effort();
        effortRefusals();
        planTakesMostPieces();
        planCostsLeast();
        planPrefersLesserHands();
        planHasWholeSize();
        planRefusals();
        planned();
        release();
        many();
        due.end();
    }

    private static void effort() {
        GlossHouse x = new GlossHouse();
        Due.piece(x, 0, 1, 2, 3, 4, 5);
        Due.piece(x, 0, 1, 2, 3, 4, 6);
        Due.piece(x, 0, 1, 2, 3, 6, 7);
        Due.piece(x, 0, 1, 2, 8, 9, 10);
        Due.piece(x, 0, 1, 2, 3, 4, 5);
        Due.piece(x, 1, 1, 2, 3, 4, 5);
        Due.piece(x, 0, 1);
        x.turn();
        Due.twoHands(x);
        due.is("without a nearest", x.effort(0, 0), 5);
        due.is("a held one", x.effort(5, 0), 0);
        Due.reviewed(x, 0, 0, 200);
        due.is("a reviewed one", x.effort(0, 0), 0);
        due.is("one far", x.effort(1, 0), 2);
        due.is("two far", x.effort(2, 0), 2);
        due.is("three far", x.effort(3, 0), 5);
        due.is("none far", x.effort(4, 0), 1);
        due.is("held, with a nearest", x.effort(5, 0), 0);
        due.is("a short one that is far", x.effort(6, 0), 1);
        due.is("in another tongue", x.effort(0, 1), 5);
        Due.write(x, 0, 0, 0, 201);
        due.is("a drafted one needs it", x.effort(0, 0), 1);
        GlossHouse y = Due.house(Due.row(1), Due.row(2));
        Due.twoHands(y);
        Due.reviewed(y, 0, 0, 200);
        due.is("one sign, one far", y.effort(1, 0), 2);
        Due.piece(y, 0, 5);
        y.turn();
        due.is("a doubtful one needs it", y.effort(0, 0), 2);
    }

    private static void effortRefusals() {
        GlossHouse x = Due.house(Due.row(1));
        due.is("effort(1, 0)", x.effort(1, 0), GlossHouse.NUMBER);
        due.is("effort(0, 3)", x.effort(0, 3), GlossHouse.NUMBER);
        for (int wrong : Due.BEYOND) {
            due.is("effort(" + wrong + ", 0)", x.effort(wrong, 0), GlossHouse.NUMBER);
            due.is("effort(0, " + wrong + ")", x.effort(0, wrong), GlossHouse.NUMBER);
        }
    }

    private static void plan(String name, GlossHouse x, int tongue, int... hands) {
        for (int i = 0; i < hands.length; i++) {
            due.is(name + ": plan(" + tongue + ", " + i + ")", x.plan(tongue, i), hands[i]);
        }
    }

    private static void planTakesMostPieces() {
        GlossHouse x = Due.house(Due.row(1, 2, 3, 4), Due.row(5, 6), Due.row(7, 8));
        x.hand(1, 4, 9);
        plan("two small ones", x, 0, GlossHouse.NONE, 0, 0);
        due.is("how many", x.planned(0, 0), 2);
        due.is("cost", x.planned(0, 1), 36);
        x.hours(0, 3);
        plan("one only, the lesser", x, 0, GlossHouse.NONE, 0, GlossHouse.NONE);
        x.hours(0, 0);
        plan("no hours", x, 0, GlossHouse.NONE, GlossHouse.NONE, GlossHouse.NONE);
        due.is("cost of nothing", x.planned(0, 1), 0);
        plan("a tongue that none knows", x, 1, GlossHouse.NONE, GlossHouse.NONE, GlossHouse.NONE);
        x.hours(0, 8);
        plan("just enough", x, 0, 0, 0, 0);
        x.hours(0, 7);
        plan("one hour less", x, 0, GlossHouse.NONE, 0, 0);
    }

    private static void planCostsLeast() {
        GlossHouse x = Due.house(Due.row(1, 2, 3), Due.row(4, 5), Due.row(6));
        x.hand(7, 20, 3);
        x.hand(7, 3, 1);
        plan("three hours are cheap, and the first has the lesser hand", x, 0, 0, 1, 1);
        due.is("cost", x.planned(0, 1), 3 + 3 * 3);
        x.hours(1, 2);
        plan("with two hours", x, 0, 0, 1, 0);
        due.is("cost then", x.planned(0, 1), 2 + 4 * 3);
        x.hand(4, 20, 1);
        plan("one that doesn't know it", x, 0, 0, 1, 0);
        plan("one that does", x, 2, 1 + 1, 1, 1 + 1);
    }

    private static void planPrefersLesserHands() {
        GlossHouse x = Due.house(Due.row(1, 2), Due.row(3, 4), Due.row(5, 6));
        x.hand(1, 2, 2);
        x.hand(1, 2, 2);
        plan("none stands behind all", x, 0, 0, 1, GlossHouse.NONE);
        x.hours(0, 4);
        plan("the first two have the lesser", x, 0, 0, 0, 1);
        x.hand(1, 20, 1);
        plan("but cost goes first", x, 0, 2, 2, 2);
        x.hours(2, 3);
        plan("one goes to the cheap one, the last", x, 0, 0, 0, 2);
    }

    private static void planHasWholeSize() {
        GlossHouse x = new GlossHouse();
        for (int i = 0; i < 8; i++) {
            Due.piece(x, 0, i, i, i, i, i, i, i, i);
        }
        x.turn();
        for (int i = 0; i < 5; i++) {
            x.hand(1, 16, 9);
        }
        plan("eight of eight", x, 0, 0, 0, 1, 1, 2, 2, 3, 3);
        due.is("the highest cost", x.planned(0, 1), 576);
        due.is("all of them", x.planned(0, 0), 8);
        for (int i = 0; i < 5; i++) {
            x.hours(i, 15);
        }
        plan("one each", x, 0, 0, 1, 2, 3, 4, -5, -5, -5);
        due.is("five of them", x.planned(0, 0), 5);
        due.is("eight need work", x.planned(0, 2), 8);
    }

    private static void planRefusals() {
        GlossHouse x = new GlossHouse();
        Due.piece(x, 0, 1);
        Due.piece(x, 1, 2);
        x.turn();
        Due.twoHands(x);
        due.is("a held one has none", x.plan(0, 1), GlossHouse.NONE);
        Due.reviewed(x, 0, 0, 200);
        due.is("a reviewed one has none", x.plan(0, 0), GlossHouse.NONE);
        due.is("but in another tongue", x.plan(1, 0), 0);
        due.is("plan(3, 0)", x.plan(3, 0), GlossHouse.NUMBER);
        due.is("plan(0, 2)", x.plan(0, 2), GlossHouse.NUMBER);
        for (int wrong : Due.BEYOND) {
            due.is("plan(" + wrong + ", 0)", x.plan(wrong, 0), GlossHouse.NUMBER);
            due.is("plan(0, " + wrong + ")", x.plan(0, wrong), GlossHouse.NUMBER);
        }
    }

    private static void planned() {
        GlossHouse x = new GlossHouse();
        Due.piece(x, 0, 1, 2, 3);
        Due.piece(x, 1, 2);
        Due.piece(x, 2, 1, 2, 4);
        x.turn();
        due.is("without hands: have one", x.planned(0, 0), 0);
        due.is("without hands: cost", x.planned(0, 1), 0);
        due.is("without hands: need work", x.planned(0, 2), 2);
        Due.twoHands(x);
        Due.reviewed(x, 0, 0, 200);
        due.is("have one", x.planned(0, 0), 1);
        due.is("cost", x.planned(0, 1), 2);
        due.is("need work", x.planned(0, 2), 1);
        due.is("cost in another tongue", x.planned(1, 1), 6);
        due.is("planned(3, 0)", x.planned(3, 0), GlossHouse.NUMBER);
        due.is("planned(0, 3)", x.planned(0, 3), GlossHouse.NUMBER);
        for (int wrong : Due.BEYOND) {
            due.is("planned(" + wrong + ", 0)", x.planned(wrong, 0), GlossHouse.NUMBER);
            due.is("planned(0, " + wrong + ")", x.planned(0, wrong), GlossHouse.NUMBER);
        }
    }

    private static void release() {
        GlossHouse x = new GlossHouse();
        Due.piece(x, 0, 1, 2, 3);
        Due.piece(x, 1, 4, 100);
        Due.piece(x, 0, 5);
        x.turn();
        Due.twoHands(x);
        Due.reviewed(x, 0, 1, 200);
        Due.write(x, 2, 1, 0, 201, 202);
        int[] own = {1, 2, 3, 4, 100, 5};
        int[] mixed = {200, 4, 100, 5};
        for (int i = 0; i < own.length; i++) {
            due.is("release(0, " + i + ")", x.release(0, i), own[i]);
        }
        for (int i = 0; i < mixed.length; i++) {
            due.is("release(1, " + i + ")", x.release(1, i), mixed[i]);
        }
        due.is("release(0, 6)", x.release(0, 6), GlossHouse.NONE);
        due.is("release(1, 4)", x.release(1, 4), GlossHouse.NONE);
        due.is("release(3, 0)", x.release(3, 0), GlossHouse.NUMBER);
        due.is("release(3, 9)", x.release(3, 9), GlossHouse.NUMBER);
        for (int wrong : Due.BEYOND) {
            due.is("release(" + wrong + ", 0)", x.release(wrong, 0), GlossHouse.NUMBER);
            due.is("release(0, " + wrong + ")", x.release(0, wrong), GlossHouse.NONE);
        }
        x.review(2, 1, 1);
        due.is("reviewed then", x.release(1, 4), 202);
        due.is("many(9)", x.many(9), 6);
        due.is("many(10)", x.many(10), 5);
        due.is("many(11)", x.many(11), 6);
        Due.piece(x, 0, 1, 2, 6);
        x.turn();
        due.is("a doubtful one is not released", x.release(1, 0), 1);
    }

    private static void many() {
        GlossHouse x = Due.house(Due.row(1, 2), Due.row(3, 4), Due.row(5, 6));
        Due.twoHands(x);
        x.term(9, 0, 200);
        Due.reviewed(x, 0, 0, 200);
        Due.reviewed(x, 1, 0, 201);
        Due.reviewed(x, 1, 1, 201);
        Due.write(x, 2, 2, 0, 202);
        Due.piece(x, 0, 1, 2);
        Due.piece(x, 0, 3, 7);
        Due.piece(x, 0, 5, 6);
        x.turn();
        Due.piece(x, 0, 8);
        Due.signs(x, 1, 2, 3, 4);
        int[] many = {3, 1, 4, 2, 1, 3, 1, 1, 2, 5, 6, 6};
        for (int what = 0; what < many.length; what++) {
            due.is("many(" + what + ")", x.many(what), many[what]);
        }
        due.is("many(12)", x.many(12), GlossHouse.NUMBER);
        for (int wrong : Due.BEYOND) {
            due.is("many(" + wrong + ")", x.many(wrong), GlossHouse.NUMBER);
        }
    }
}
