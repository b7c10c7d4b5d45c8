/** Matches whose hands are told, so that what is due can be worked out by hand. */
final class Matches {
    /**
     * Player 0: Ac 2c 3c Ad 2d 3d Ks (REST 10). Player 1: 4c 4d Ah 2h 3h 7s 8s (REST 23). PILE: 4h;
     * STOCK: 8h 9h 4s and on. With 8h drawn a knock with Ks has K 8; 4c and 4d are added, O is 15.
     */
    static final String TWO_RUNS =
            "cards 5 7 10 100;deck 0 1 2 13 14 15 51 26 27 28 3 16 45 46 29 33 34 42;";

    /** As TWO_RUNS, but 6c in place of 4c of player 1, and 4c is the top of the STOCK: K can be 0. */
    static final String ALL_LAID =
            "cards 5 7 10 100;deck 0 1 2 13 14 15 51 26 27 28 5 16 45 46 29 3 34 42;";

    /**
     * Player 0: Tc Td Th Jc Jd Jh 8h (REST 8). Player 1, who is to draw Qs: Ac 2c 3c 4c Ad 2d 3d. A knock
     * with Qs has K 0 and brings 28.
     */
    static final String SECOND_LAID =
            "cards 5 7 10 100;deck 9 22 35 10 23 36 33 0 1 2 3 13 14 15 29 51 50;stock;drop 51;";

    /** As SECOND_LAID, but 8s in place of 4c: K is 8, as is O. */
    static final String SECOND_EVEN =
            "cards 5 7 10 100;deck 9 22 35 10 23 36 33 0 1 2 46 13 14 15 29 51 50;stock;drop 51;";

    private Matches() {
    }

    static WrapRuns twoRuns() {
        return Texts.begun(TWO_RUNS);
    }

    static WrapRuns allLaid() {
        return Texts.begun(ALL_LAID);
    }

    /** A match in which player 0 holds these cards at first. */
    static WrapRuns holding(int... cards) {
        StringBuilder text = new StringBuilder("cards 7 " + cards.length + " 10 100;deck");
        for (int card : cards) {
            text.append(' ').append(card);
        }
        return Texts.begun(text.append(';').toString());
    }

    /** Plays draws from the STOCK and drops of the cards drawn until the round is over. */
    static WrapRuns emptied(String text) {
        WrapRuns runs = Texts.begun(text);
        empty(runs);
        return runs;
    }

    /** The same from a turn on in which no card was drawn yet. */
    static void empty(WrapRuns runs) {
        for (int left = runs.match(8); left > 0; left--) {
            runs.drop(runs.draw(false));
        }
    }

    /** As TWO_RUNS, but each player has one card that is left: of player 1 all others are two sets. */
    static String leaving(int own, int other) {
        return "cards 5 7 10 100;deck 0 1 2 13 14 15 " + own + " 9 22 35 10 23 36 " + other + " 29 51;";
    }

    /** All that can be asked without a change, but for what the slots hold; some 60 calls. */
    static String all(WrapRuns runs) {
        StringBuilder all = new StringBuilder();
        for (int what = 0; what <= 16; what++) {
            all.append(runs.match(what)).append(' ');
        }
        for (int player = 0; player < 2; player++) {
            for (int place = 0; place < 11; place++) {
                all.append(' ').append(runs.card(player, place));
            }
        }
        for (int i = 0; i < 22; i++) {
            all.append(' ').append(runs.reportByte(i));
        }
        return all.append(' ').append(runs.number()).toString();
    }

    /** All that match(), where(), card() and number() tell, but not what undo() leaves alone. */
    static String state(WrapRuns runs) {
        StringBuilder state = new StringBuilder();
        for (int what = 0; what <= 14; what++) {
            state.append(runs.match(what)).append(' ');
        }
        for (int card = 0; card < 52; card++) {
            state.append(runs.where(card));
        }
        for (int player = 0; player < 2; player++) {
            for (int place = 0; place < 11; place++) {
                state.append(' ').append(runs.card(player, place));
            }
        }
        return state.append(' ').append(runs.number()).toString();
    }
}
