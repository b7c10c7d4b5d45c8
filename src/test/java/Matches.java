/** Matches whose hands are told, so that what is due can be worked out by hand. */
final class Matches {
    /**
     * Player 0: Ac 2c 3c Ad 2d 3d Ks (REST 10). Player 1: 4c 4d Ah 2h 3h 7s 8s (REST 23). PILE: 4h;
     * STOCK: 8h 9h 4s and on. With 8h drawn a knock with Ks has K 8; 4c and 4d are added, O is 15.
     */
    static final String TWO_RUNS =
            "cards 5 7 10 100;deck 0 1 2 13 14 15 51 26 27 28 3 16 45 46 29 33 34 42;";

    /** As TWO_RUNS, but 6c in place of 4c of player 1, and 4c is the top of the STOCK: K can be 0. */
    static final String ALL_LAID =
            "cards 5 7 10 100;deck 0 1 2 13 14 15 51 26 27 28 5 16 45 46 29 3 34 42;";

    private Matches() {
    }

    static WrapRuns twoRuns() {
        return Texts.begun(TWO_RUNS);
    }

    static WrapRuns allLaid() {
        return Texts.begun(ALL_LAID);
    }

    /** A match in which player 0 holds these cards at first. */
    static WrapRuns holding(int... cards) {
        StringBuilder text = new StringBuilder("cards 7 " + cards.length + " 10 100;deck");
        for (int card : cards) {
            text.append(' ').append(card);
        }
        return Texts.begun(text.append(';').toString());
    }

    /** Plays draws from the STOCK and drops of the cards drawn until the round is over. */
    static WrapRuns emptied(String text) {
        WrapRuns runs = Texts.begun(text);
        for (int turn = 0; turn < 52 && runs.match(6) == 0; turn++) {
            runs.drop(runs.draw(false));
        }
        return runs;
    }

    /** All that match(), where(), card() and number() tell, but not what undo() leaves alone. */
    static String state(WrapRuns runs) {
        StringBuilder state = new StringBuilder();
        for (int what = 0; what <= 14; what++) {
            state.append(runs.match(what)).append(' ');
        }
        for (int card = 0; card < 52; card++) {
            state.append(runs.where(card));
        }
        for (int player = 0; player < 2; player++) {
            for (int place = 0; place < 11; place++) {
                state.append(' ').append(runs.card(player, place));
            }
        }
        return state.append(' ').append(runs.number()).toString();
    }
}
