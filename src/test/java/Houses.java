/** Houses that several tests begin with. */
final class Houses {
    private Houses() {
    }

    /**
     * One that has some of everything. Pieces: 0 plain, with a reviewed text in tongue 0; 1 short, with
     * doubtful ones in 0 (by hand 0, with a fault) and 1 (by hand 1); 2 held; 3 plain, with a reviewed one
     * in 0 and a drafted one in 2 (by hand 0, with a fault). Hands: 0 and 1 know all, 2 knows tongue 0,
     * 3 knows tongue 1. Three are remembered, all in tongue 0; three terms; two pieces of the next one;
     * another source, of three pieces, is kept.
     */
    static void rich(GlossHouse x, int... draft) {
        x.hand(7, 20, 1);
        x.hand(7, 5, 2);
        x.hand(1, 3, 1);
        x.hand(2, 0, 9);
        x.limit(4);
        Due.piece(x, 0, 1, 2, 100);
        Due.piece(x, 2, 3, 4);
        Due.piece(x, 1, 5);
        x.turn();
        Due.reviewed(x, 0, 0, 211, 100);
        Due.reviewed(x, 1, 0, 212);
        Due.write(x, 1, 1, 1, 203);
        x.keep();
        Due.piece(x, 0, 1, 2, 100);
        Due.piece(x, 2, 3, 6);
        Due.piece(x, 1, 5);
        Due.piece(x, 0, 7, 8, 9);
        x.turn();
        Due.reviewed(x, 3, 0, 205, 206);
        Due.write(x, 3, 2, 0, 204);
        x.term(1, 0, 211);
        x.term(3, 0, 213);
        x.term(7, 2, 217);
        Due.piece(x, 2, 1, 2, 103);
        Due.piece(x, 0, 40);
        Due.signs(x, draft);
    }

    /**
     * One that is full: 8 pieces (number p has the words p and p + 10), 8 of the next one, 5 hands, 10 terms
     * (of the words 0 to 7 in tongue 0, and 0 and 1 in tongue 1), 20 remembered. The draft comes last.
     */
    static void full(GlossHouse x, int... draft) {
        for (int hand = 0; hand < 5; hand++) {
            x.hand(hand < 2 ? 7 : hand, 20 - hand, 1 + hand);
        }
        for (int p = 0; p < 8; p++) {
            Due.piece(x, p % 2 * 2, p, p + 10);
        }
        x.turn();
        for (int i = 0; i < 20; i++) {
            Due.reviewed(x, i % 8, i / 8, 210 + i);
        }
        x.keep();
        for (int i = 0; i < 10; i++) {
            x.term(i % 8, i / 8, 210 + i % 8);
        }
        for (int p = 0; p < 8; p++) {
            Due.piece(x, p % 3, p + 20);
        }
        Due.signs(x, draft);
    }
}
