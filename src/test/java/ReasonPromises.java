/** The sentences of the promises 20 to 29: reasons and what would be. */
final class ReasonPromises {
    /** 7d is left beside two runs; Ks is the top of the pile. */
    private static final String KING_ON_PILE = "cards 5 7 10 100;deck 0 1 2 13 14 15 19 26 28 30 42 44 47 33 51 20 4;";

    /** Three aces, three fives and two tens; player 1 has the threes and the eights. */
    private static final String TWO_TENS = "cards 5 8 20 100;deck 0 13 26 4 17 30 9 22 2 15 28 41 7 20 33 46 51 35;";
    /** As TWO_TENS, but three tens; Ks is the top of the pile. */
    private static final String THREE_TENS =
            "cards 5 9 20 100;deck 0 13 26 4 17 30 9 22 35 2 15 28 41 7 20 33 46 5 51 24;";
    /** Ac is left beside Ad 2d 3d and Jh Qh Kh; Ks is the top of the pile and of the stock 9s. */
    private static final String ACE_LEFT = "cards 5 7 20 100;deck 0 13 14 15 36 37 38 2 28 41 7 20 33 5 51 47;";

    private ReasonPromises() {
    }

    static void test(Sentences all) {
        restWithout(all);
        bestDrop(all);
        restByPile(all);
        helping(all);
        ifKnock(all);
        ifKnockRefused(all);
        needed(all);
        kind(all);
        gap(all);
        meanRest(all);
        laid(all);
    }

    private static void restWithout(Sentences all) {
        all.test("Promise 20", "Returns REST of the player to move without a card.", c -> {
            WrapRuns runs = new WrapRuns();
            c.same("the one that is left", runs.restWithout(45), 0);
            c.same("Kc of K A 2", runs.restWithout(12), 7 + 2);
            c.same("Ac, which is in the run", runs.restWithout(0), 7 + 10 + 2);
            c.same("not drawn yet, all of 6 others", Matches.holding(1, 4, 7, 10, 15, 18, 21).restWithout(1), 41);
        });
        all.test("Promise 20", "card: a card of the player to move", c -> {
            WrapRuns runs = Texts.begun(Matches.TWO_RUNS + "stock;");
            c.same("the card drawn", runs.restWithout(33), 10);
            c.same("another", runs.restWithout(51), 8);
            c.same("the card 0", runs.restWithout(0), 5 + 18);
            runs.drop(51);
            c.same("of player 1", runs.restWithout(46), 4 + 4 + 7);
            WrapRuns pile = Texts.begun(Matches.TWO_RUNS + "pile;");
            c.same("the one drawn from the pile", pile.restWithout(29), 10);
        });
        all.test("Promise 20", "Returns REST of the others.", c -> {
            WrapRuns over = Texts.begun(Matches.TWO_RUNS + "stock;knock 51;");
            c.same("the round is over", over.restWithout(33), 0);
            c.same("none is left", Matches.holding(0, 1, 2, 3, 13, 14, 15).restWithout(3), 0);
        });
        all.test("Promise 20", "Throws NoSuchElementException if the player has no such card", c -> {
            WrapRuns runs = Texts.begun(Matches.TWO_RUNS + "stock;");
            for (int card : new int[] {26, 29, 34, -1, 52, 65, Integer.MIN_VALUE, Integer.MAX_VALUE}) {
                c.noSuchCard("card " + card, () -> runs.restWithout(card));
            }
        });
    }

    private static void bestDrop(Sentences all) {
        all.test("Promise 21", "Returns the card that the player to move would best drop: without which REST is least", c -> {
            c.same("Ks", Texts.begun(Matches.TWO_RUNS + "stock;").bestDrop(), 51);
            // Kings are laid: 3h is dropped, though it has the fewest points but for the aces.
            c.same("3h", Texts.begun("cards 5 7 10 100;deck 12 25 38 0 1 2 28 13 14 30 31 42 44 47 33 3;stock;").bestDrop(), 28);
            // All nine cards are laid out: an ace is broken out of its set.
            c.same("no card is left", Texts.begun(TWO_TENS + "stock;").bestDrop(), 0);
            // Only Ac is left beside 2d 3d 4d 5d and Jh Qh Kh.
            c.same("the card 0", Texts.begun("cards 5 7 10 100;deck 0 14 15 16 36 37 38 1 2 30 31 42 44 47 33 17;stock;").bestDrop(),
                    0);
        });
        all.test("Promise 21", "(not the one that was drawn from the PILE in this turn).", c -> {
            c.same("Ks from the pile", Texts.begun(KING_ON_PILE + "pile;").bestDrop(), 19);
            c.same("only Ks from the pile is left", Texts.begun(THREE_TENS + "pile;").bestDrop(), 0);
            c.same("Ks from the stock", Texts.begun(KING_ON_PILE.replace("33 51", "33 9 51") + "stock;").bestDrop(), 51);
            WrapRuns later = Texts.begun(KING_ON_PILE + "pile;drop 19;stock;drop 26;stock;");
            c.same("Ks from the pile in an earlier turn", later.bestDrop(), 51);
        });
        all.test("Promise 21", "Returns the card, of several the one with the most POINTS", c -> {
            // REST is 0 without any card of Ac 2c 3c 4c at its ends, Ad 2d 3d 4d likewise: 4c or 4d.
            c.same("4c", Texts.begun("cards 5 7 10 100;deck 0 1 2 3 13 14 15 26 28 30 42 44 47 20 33 16;stock;").bestDrop(), 3);
            // Ac or 4c leaves none of them: 4c.
            c.same("4c of one run", Texts.begun("cards 5 7 10 100;deck 0 1 2 3 36 37 38 26 28 30 42 44 47 20 33 49;stock;").bestDrop(),
                    49);
            c.same("Ks, not 9s", Texts.begun("cards 5 7 10 100;deck 0 1 2 13 14 15 47 26 28 30 42 44 5 20 33 51;stock;").bestDrop(),
                    51);
        });
        all.test("Promise 21", "of several of these the least", c -> {
            // Qd, Kh and Ts have ten points each, and each leaves 20 and 4.
            c.same("Qd", Texts.begun("cards 5 7 10 100;deck 0 1 2 24 38 48 16 3 15 26 28 30 42 44 20;pile;").bestDrop(), 24);
            c.same("Tc", Texts.begun("cards 5 7 10 100;deck 13 14 15 9 24 38 51 3 27 26 29 30 42 44 20 34;stock;").bestDrop(), 9);
        });
        all.test("Promise 21", "NONE if no card was drawn or the round is over.", c -> {
            WrapRuns runs = Matches.twoRuns();
            c.same("not drawn", runs.bestDrop(), WrapRuns.NONE);
            runs.draw(false);
            c.same("drawn", runs.bestDrop(), 51);
            runs.knock(51);
            c.same("knocked", runs.bestDrop(), WrapRuns.NONE);
            c.same("the stock is empty", Matches.emptied(Matches.TWO_RUNS).bestDrop(), WrapRuns.NONE);
            c.same("next player", Texts.begun(Matches.TWO_RUNS + "stock;drop 51;").bestDrop(), WrapRuns.NONE);
        });
    }

    private static void restByPile(Sentences all) {
        all.test("Promise 22", "Returns the least REST that the player to move would have behind the drop if the top card of"
                + " the PILE was drawn now.", c -> {
            c.same("4h for Ks", Matches.twoRuns().restByPile(), 4);
            c.same("4c for Ks", Texts.begun(Matches.TWO_RUNS.replace(" 3 16 45 46 29", " 29 16 45 46 3")).restByPile(), 0);
            c.same("the card 0 is the top", Texts.begun("cards 5 7 10 100;deck 1 2 3 14 15 16 51 27 28 30 42 44 47 33 0;").restByPile(),
                    0);
            // Ks can't be dropped itself: 7d goes.
            c.same("a card that does not help", Texts.begun(KING_ON_PILE).restByPile(), 10);
            c.same("of player 1", Texts.begun(Matches.TWO_RUNS + "stock;drop 33;").restByPile(), 4 + 4 + 7 + 8);
            // All nine cards would be laid out, so two aces stay; or Ks and two aces, or Ks in place of Ac.
            c.same("no card would be left", Texts.begun(TWO_TENS.replace("51 35", "35 51")).restByPile(), 2);
            c.same("only Ks would be left", Texts.begun(THREE_TENS).restByPile(), 10 + 2);
            c.same("Ac goes for Ks", Texts.begun(ACE_LEFT).restByPile(), 10);
            c.same("9s goes for Ac", Texts.begun(ACE_LEFT.replace(" 0 13", " 47 13").replace("51 47", "0 51")).restByPile(), 1);
        });
        all.test("Promise 22", "Returns REST", c -> {
            WrapRuns runs = Texts.begun(KING_ON_PILE);
            int rest = runs.restByPile();
            runs.draw(true);
            runs.drop(runs.bestDrop());
            c.same("as it is then", runs.player(0, 1), rest);
        });
        all.test("Promise 22", "NONE if a card was drawn, the round is over, or the PILE is empty.", c -> {
            c.same("from the stock", Texts.begun(Matches.TWO_RUNS + "stock;").restByPile(), WrapRuns.NONE);
            c.same("from the pile, which is empty", Texts.begun(Matches.TWO_RUNS + "pile;").restByPile(), WrapRuns.NONE);
            c.same("from a pile of two", Texts.begun(Matches.TWO_RUNS + "stock;drop 51;pile;").restByPile(), WrapRuns.NONE);
            c.same("knocked", Texts.begun(Matches.TWO_RUNS + "stock;knock 51;").restByPile(), WrapRuns.NONE);
            c.same("the stock is empty", Matches.emptied(Matches.TWO_RUNS).restByPile(), WrapRuns.NONE);
            c.isTrue("dropped", Texts.begun(Matches.TWO_RUNS + "stock;drop 51;").restByPile() >= 0);
        });
    }

    private static void helping(Sentences all) {
        all.test("Promise 23", "Returns how many cards would help a player: each card that is not in this hand, if drawn, so"
                + " that REST behind dropping another card would be less than REST of the hand.", c -> {
            // For 7s: three twos, all of 3 to 6, and Qc to K A 2; not another seven.
            c.same("a seven is left", new WrapRuns().helping(0), 3 + 4 * 4 + 1);
            c.same("REST is 0", Matches.holding(0, 1, 2, 13, 14, 15, 16).helping(0), 0);
            // For Ks: the 30 cards of less than 10 points that are not held, and Kc, Kd to the runs.
            c.same("a king is left", Matches.holding(0, 1, 2, 13, 14, 15, 51).helping(0), 30 + 2);
            // For 2s: Ac, 5c, Ad, 5d to the runs, and the two other aces.
            c.same("a two is left", Matches.holding(1, 2, 3, 14, 15, 16, 40).helping(0), 6);
            // For two tens: the 30 cards of less than 10 points that are not held, and the two other tens.
            c.same("two tens are left", Texts.begun(TWO_TENS).helping(0), 32);
            c.same("nine cards are laid", Texts.begun(THREE_TENS).helping(0), 0);
            // For As: 4c, 4d, Kc, Kd to the runs only; Ah makes a set, but then 2c and 3c are left.
            c.same("an ace is left", Matches.holding(0, 1, 2, 13, 14, 15, 39).helping(0), 4);
        });
        all.test("Promise 23", "player: 0 or 1 (who has HANDS cards)", c -> {
            WrapRuns runs = Texts.begun(Matches.TWO_RUNS + "stock;drop 51;");
            c.same("player 0, 8h is left", runs.helping(0), 24);
            // 22 cards of 7 points or less in place of 8s, 9s to 7s 8s, and Kh to the run.
            c.same("player 1", runs.helping(1), 24);
            c.same("the round is over", Texts.begun(Matches.TWO_RUNS + "stock;knock 51;").helping(0), 24);
        });
        all.test("Promise 23", "Returns how many", c -> {
            int due = 0;
            int[] hand = {1, 17, 33, 49, 10, 25, 41};
            WrapRuns runs = Matches.holding(hand);
            for (int card = 0; card < 52; card++) {
                boolean isHeld = false;
                for (int held : hand) {
                    isHeld |= held == card;
                }
                due += isHeld || !helps(hand, card) ? 0 : 1;
            }
            c.same("one hand, card by card", runs.helping(0), due);
        });
        all.test("Promise 23", "NONE if the player has HANDS + 1 cards.", c -> {
            WrapRuns runs = Matches.twoRuns();
            c.isTrue("not drawn", runs.helping(0) >= 0);
            runs.draw(false);
            c.same("drawn", runs.helping(0), WrapRuns.NONE);
            c.isTrue("the other one", runs.helping(1) >= 0);
            runs.drop(51);
            c.isTrue("dropped", runs.helping(0) >= 0);
            runs.draw(true);
            c.same("player 1 has drawn", runs.helping(1), WrapRuns.NONE);
            c.same("ten cards", Texts.begun("cards 1 10 10 100;stock;").helping(0), WrapRuns.NONE);
        });
        all.test("Promise 23", "Throws IllegalArgumentException if an argument is out of its range", c -> {
            WrapRuns runs = new WrapRuns();
            for (int player : new int[] {-1, 2, Integer.MIN_VALUE, Integer.MAX_VALUE}) {
                c.outOfRange("player " + player, () -> runs.helping(player));
            }
        });
    }

    /** Draws the card, as the top of the stock, and looks at what is left behind each other drop. */
    private static boolean helps(int[] hand, int card) {
        StringBuilder text = new StringBuilder("cards 7 7 10 100;deck");
        for (int held : hand) {
            text.append(' ').append(held);
        }
        int told = 0;
        for (int other = 0; other < 52 && told < 8; other++) {
            boolean isFree = other != card;
            for (int held : hand) {
                isFree &= held != other;
            }
            if (isFree) {
                text.append(' ').append(other);
                told++;
            }
        }
        WrapRuns runs = Texts.begun(text.append(' ').append(card).append(";").toString());
        int rest = runs.player(0, 1);
        runs.draw(false);
        boolean isLess = false;
        for (int held : hand) {
            isLess |= runs.restWithout(held) < rest;
        }
        return isLess;
    }

    private static void row(Check c, String moves, int card, int... due) {
        WrapRuns runs = Texts.begun(moves);
        for (int what = 0; what <= 3; what++) {
            c.same("card " + card + " " + what, runs.ifKnock(card, what), due[what]);
        }
    }

    private static void ifKnock(Sentences all) {
        all.test("Promise 24", "Tells what would come of knocking with a card.", c -> {
            WrapRuns runs = Texts.begun(Matches.TWO_RUNS + "stock;");
            String before = Matches.all(runs);
            c.same("K", runs.ifKnock(51, 1), 8);
            c.same("O", runs.ifKnock(51, 2), 15);
            c.same("nothing changes", Matches.all(runs), before);
            c.same("knock", runs.knock(51), 7);
        });
        all.test("Promise 24", "card: a card of the player to move", c -> {
            row(c, Matches.TWO_RUNS + "stock;", 33, 0, 10, 15, 2);
            row(c, Matches.TWO_RUNS + "stock;", 51, 0, 8, 15, 2);
            // Ac leaves 2c 3c, and nothing but 4d is added then.
            row(c, Matches.TWO_RUNS + "stock;", 0, 6, 5 + 18, 19, 1);
            row(c, Matches.SECOND_EVEN + "stock;", 50, 0, 8, 8, 0);
            row(c, Matches.SECOND_LAID + "stock;", 50, 0, 0, 8, 0);
        });
        all.test("Promise 24", "what: 0: the reason by which knock() would be refused, otherwise 0", c -> {
            c.same("none", Texts.begun(Matches.TWO_RUNS + "stock;").ifKnock(51, 0), 0);
            c.same("2", Texts.begun(Matches.TWO_RUNS + "stock;knock 51;").ifKnock(33, 0), 2);
            c.same("4", Matches.twoRuns().ifKnock(51, 0), 4);
            c.same("5", Texts.begun(Matches.TWO_RUNS + "pile;").ifKnock(29, 0), 5);
            c.same("6", Texts.begun(Matches.TWO_RUNS + "stock;").ifKnock(0, 0), 6);
            WrapRuns runs = Texts.begun(Matches.TWO_RUNS + "stock;");
            runs.set(false, 8);
            c.same("8 of 8", runs.ifKnock(51, 0), 0);
            runs.set(false, 7);
            c.same("8 of 7", runs.ifKnock(51, 0), 6);
        });
        all.test("Promise 24", "1: K; 2: O; 3: cards that would be added", c -> {
            row(c, Matches.ALL_LAID + "stock;", 51, 0, 0, 25, 0);
            row(c, Matches.leaving(39, 33) + "stock;", 51, 0, 1, 8, 0);
            row(c, Matches.leaving(46, 3) + "stock;", 51, 0, 8, 0, 1);
            row(c, "cards 5 7 20 100;deck 1 2 3 22 35 48 40 4 5 0 12 23 38 30 51 50;stock;", 50, 0, 2, 25, 4);
        });
    }

    private static void ifKnockRefused(Sentences all) {
        all.test("Promise 24", "(1 to 3: also if it would be refused, so long as a card was drawn", c -> {
            row(c, Matches.TWO_RUNS.replace("7 10", "7 7") + "stock;", 51, 6, 8, 15, 2);
            row(c, Matches.TWO_RUNS + "pile;", 29, 5, 10, 15, 2);
            row(c, Matches.TWO_RUNS.replace("7 10", "7 0") + "pile;", 29, 5, 10, 15, 2);
        });
        all.test("Promise 24", "NONE if none was, or the round is over)", c -> {
            row(c, Matches.TWO_RUNS, 51, 4, -1, -1, -1);
            row(c, Matches.TWO_RUNS + "stock;drop 51;", 26, 4, -1, -1, -1);
            row(c, Matches.TWO_RUNS + "stock;knock 51;", 33, 2, -1, -1, -1);
            WrapRuns empty = Matches.emptied(Matches.TWO_RUNS);
            for (int what = 0; what <= 3; what++) {
                c.same("the stock is empty " + what, empty.ifKnock(51, what), what == 0 ? 2 : WrapRuns.NONE);
            }
        });
        all.test("Promise 24", "Returns the number.", c -> row(c, Matches.TWO_RUNS + "pile;", 51, 0, 4, 15, 2));
        all.test("Promise 24", "Throws NoSuchElementException if the player has no such card", c -> {
            WrapRuns runs = Texts.begun(Matches.TWO_RUNS + "stock;");
            for (int card : new int[] {26, 29, 34, -1, 52, 65, Integer.MIN_VALUE, Integer.MAX_VALUE}) {
                c.noSuchCard("card " + card, () -> runs.ifKnock(card, 0));
                c.noSuchCard("card " + card + ", no such number", () -> runs.ifKnock(card, 4));
            }
            WrapRuns begun = Matches.twoRuns();
            c.noSuchCard("not drawn", () -> begun.ifKnock(26, 1));
        });
        all.test("Promise 24", "Throws IllegalArgumentException if an argument is out of its range", c -> {
            WrapRuns drawn = Texts.begun(Matches.TWO_RUNS + "stock;");
            WrapRuns begun = Matches.twoRuns();
            WrapRuns over = Texts.begun(Matches.TWO_RUNS + "stock;knock 51;");
            for (int what : new int[] {-1, 4, Integer.MIN_VALUE, Integer.MAX_VALUE}) {
                c.outOfRange("drawn " + what, () -> drawn.ifKnock(51, what));
                c.outOfRange("not drawn " + what, () -> begun.ifKnock(51, what));
                c.outOfRange("over " + what, () -> over.ifKnock(33, what));
            }
        });
    }

    private static void needed(Sentences all) {
        all.test("Promise 25", "Returns the least KNOCK with which the player to move could knock now.", c -> {
            WrapRuns runs = Texts.begun(Matches.TWO_RUNS + "stock;");
            c.same("needed", runs.needed(), 8);
            runs.set(false, 7);
            c.same("7 is too little", runs.ifKnock(runs.bestDrop(), 0), 6);
            runs.set(false, 8);
            c.same("8 is enough", runs.ifKnock(runs.bestDrop(), 0), 0);
            c.same("KNOCK does not matter", runs.needed(), 8);
            c.same("none", Texts.begun(Matches.ALL_LAID + "stock;").needed(), 0);
            // 5d 6d 7d 8d and the aces: a run of three would leave 8d.
            c.same("a set and a run of four", Texts.begun("cards 5 7 20 100;deck 0 13 26 17 18 19 20 2 15 28 41 7 33 46 5 51;"
                    + "stock;").needed(), 0);
            c.same("three sets and Qd", Texts.begun(THREE_TENS + "stock;").needed(), 0);
            c.same("three sets, Ks and Qd", Texts.begun("cards 5 10 20 100;deck 0 13 26 4 17 30 8 21 34 51"
                    + " 2 15 28 41 7 20 33 46 5 11 36 24;stock;").needed(), 10);
        });
        all.test("Promise 25", "Returns the least REST behind a drop that is allowed", c -> {
            c.same("Ks from the pile stays", Texts.begun(KING_ON_PILE + "pile;").needed(), 10);
            c.same("all are laid out, so two aces stay", Texts.begun(TWO_TENS + "stock;").needed(), 2);
            c.same("only Ks from the pile is left", Texts.begun(THREE_TENS + "pile;").needed(), 10 + 2);
            c.same("9s goes, Ac stays", Texts.begun(ACE_LEFT + "stock;").needed(), 1);
            c.same("Ac goes, Ks stays", Texts.begun(ACE_LEFT + "pile;").needed(), 10);
            c.same("Ks from the stock goes", Texts.begun(KING_ON_PILE.replace("33 51", "33 9 51") + "stock;").needed(), 7);
            c.same("Ks from the pile in an earlier turn goes, 5c stays",
                    Texts.begun(KING_ON_PILE + "pile;drop 19;stock;drop 26;stock;").needed(), 5);
        });
        all.test("Promise 25", "NONE if no card was drawn, or the round is over.", c -> {
            c.same("not drawn", Matches.twoRuns().needed(), WrapRuns.NONE);
            c.same("next player", Texts.begun(Matches.TWO_RUNS + "stock;drop 51;").needed(), WrapRuns.NONE);
            c.same("knocked", Texts.begun(Matches.TWO_RUNS + "stock;knock 51;").needed(), WrapRuns.NONE);
            c.same("the stock is empty", Matches.emptied(Matches.TWO_RUNS).needed(), WrapRuns.NONE);
        });
    }

    private static void kind(Sentences all) {
        WrapRuns runs = new WrapRuns();
        all.test("Promise 26", "Tells whether some cards are a MELD.", c -> {
            c.same("aces of all suits but clubs", runs.kind(1L << 13 | 1L << 26 | 1L << 39), 1);
            c.same("Q K A of spades", runs.kind(1L << 50 | 1L << 51 | 1L << 39), 2);
            c.same("Q K A of spades and Ac", runs.kind(1L << 50 | 1L << 51 | 1L << 39 | 1L), 0);
            c.same("nothing", runs.kind(0), 0);
        });
        all.test("Promise 26", "suits: four sets of RANKS, one for each SUIT, as the sum of 2 to the power of the RANKS, the"
                + " set of the SUIT s times 8192 to the power of s", c -> {
            long power = 1;
            for (int suit = 0; suit < 4; suit++) {
                c.same("A 2 3 of suit " + suit, runs.kind((1 + 2 + 4) * power), 2);
                c.same("J Q K of suit " + suit, runs.kind((1024 + 2048 + 4096) * power), 2);
                c.same("2 K of suit " + suit, runs.kind((2 + 4096) * power), 0);
                power *= 8192;
            }
            c.same("kings", runs.kind(4096L + 4096L * 8192 + 4096L * 8192 * 8192), 1);
        });
        all.test("Promise 26", "Returns 0 no MELD; 1 a SET; 2 a RUN.", c -> {
            c.same("two of one rank", runs.kind(8193), 0);
            c.same("three of one rank", runs.kind(67117057), 1);
            c.same("two in a row", runs.kind(3), 0);
            c.same("three in a row", runs.kind(7), 2);
            c.same("thirteen", runs.kind(8191), 2);
        });
        all.test("Promise 26", "Throws IllegalArgumentException if it is below 0, or 4503599627370496 or more", c -> {
            c.outOfRange("-1", () -> runs.kind(-1));
            c.outOfRange("least", () -> runs.kind(Long.MIN_VALUE));
            c.outOfRange("a run and the sign", () -> runs.kind(Long.MIN_VALUE + 7));
            c.same("the greatest that is allowed", runs.kind(4503599627370495L), 0);
            c.same("the greatest run", runs.kind(8191L << 39), 2);
            c.outOfRange("4503599627370496", () -> runs.kind(4503599627370496L));
            c.outOfRange("4503599627370503", () -> runs.kind(4503599627370503L));
            c.outOfRange("greatest", () -> runs.kind(Long.MAX_VALUE));
        });
    }

    private static void gap(Sentences all) {
        String said = "Counts what does not agree: 52 minus the cards of both hands, the STOCK and the PILE, without its sign";
        all.test("Promise 27", said, c -> {
            String[] moves = {"", "stock;", "pile;", "pile;drop 51;", "stock;knock 51;", "stock;knock 51;deal;"};
            for (String some : moves) {
                c.same("gap behind " + some, Texts.begun(Matches.TWO_RUNS + some).gap(), 0);
            }
            c.same("the stock is empty", Matches.emptied(Matches.TWO_RUNS).gap(), 0);
        });
        all.test("Promise 27", "for each player: the POINTS of the cards in the MELDS of THE LAYING, plus REST, minus those of"
                + " the hand, without its sign", c -> {
            c.same("all are laid", Matches.holding(0, 1, 2, 13, 14, 15, 16).gap(), 0);
            c.same("none is laid", Matches.holding(1, 4, 7, 10, 15, 18, 21).gap(), 0);
            c.same("ten", Matches.holding(0, 1, 2, 3, 4, 5, 6, 7, 8, 9).gap(), 0);
        });
        all.test("Promise 27", "MELDS that are none (it is always 0).", c -> {
            c.same("wrapped", Matches.holding(11, 12, 0, 25, 13, 14, 51, 39, 40, 7).gap(), 0);
            c.same("sets of three and four", Matches.holding(4, 17, 30, 43, 6, 19, 32).gap(), 0);
        });
        all.test("Promise 27", "Returns the number.", c -> c.same("a new object", new WrapRuns().gap(), 0));
    }

    private static void meanRest(Sentences all) {
        all.test("Promise 28", "Returns the mean REST of both players: the sum converted to double, divided by 2.0.", c -> {
            c.sameBits("7 and 35", new WrapRuns().meanRest(), 21.0);
            c.sameBits("10 and 23", Matches.twoRuns().meanRest(), 16.5);
            c.sameBits("0 and 25", Texts.begun(Matches.ALL_LAID + "stock;drop 51;").meanRest(), 12.5);
            c.sameBits("0 and 0", Texts.begun(Matches.leaving(3, 48)).meanRest(), 0.0);
        });
        all.test("Promise 28", "Returns the mean.", c ->
                c.sameBits("8 and 8", Texts.begun(Matches.leaving(46, 33)).meanRest(), 8.0));
    }

    private static void laid(Sentences all) {
        all.test("Promise 29", "Returns the part of the cards of a hand that lie in MELDS: both converted to float and divided.",
                c -> {
            WrapRuns runs = new WrapRuns();
            c.sameBits("6 of 7", runs.laid(0), 6f / 7f);
            c.sameBits("3 of 7", runs.laid(1), 3f / 7f);
            c.sameBits("none", Matches.holding(1, 4, 7, 10, 15, 18, 21).laid(0), 0f);
            c.sameBits("all", Matches.holding(0, 1, 2, 13, 14, 15, 16).laid(0), 1f);
            c.sameBits("6 of 8", Texts.begun(Matches.TWO_RUNS + "stock;").laid(0), 6f / 8f);
            c.sameBits("9 of 10", Matches.holding(11, 12, 0, 25, 13, 14, 51, 39, 40, 7).laid(0), 9f / 10f);
        });
        all.test("Promise 29", "player: 0 or 1", c -> {
            c.sameBits("player 0", Matches.twoRuns().laid(0), 6f / 7f);
            c.sameBits("player 1", Matches.twoRuns().laid(1), 3f / 7f);
        });
        all.test("Promise 29", "Returns the quotient.", c ->
                c.sameBits("7 of 7", Texts.begun(Matches.leaving(3, 48)).laid(1), 1f));
        all.test("Promise 29", "Throws IllegalArgumentException if an argument is out of its range", c -> {
            WrapRuns runs = new WrapRuns();
            for (int player : new int[] {-1, 2, Integer.MIN_VALUE, Integer.MAX_VALUE}) {
                c.outOfRange("player " + player, () -> runs.laid(player));
            }
        });
    }
}
