/** The sentences of the promises 13 to 19: what there is. */
final class StatePromises {
    private static final int[] FAR = {Integer.MIN_VALUE, Integer.MAX_VALUE};

    private StatePromises() {
    }

    static void test(Sentences all) {
        settings(all);
        turns(all);
        piles(all);
        scores(all);
        matchRange(all);
        number(all);
        player(all);
        card(all);
        where(all);
        meldOf(all);
        meld(all);
        meldNumbers(all);
    }

    private static void settings(Sentences all) {
        all.test("Promise 13", "0: HANDS", c -> {
            for (int hands = 7; hands <= 10; hands++) {
                c.same("HANDS", Texts.begun("cards 1 " + hands + " 10 100;").match(0), hands);
            }
        });
        all.test("Promise 13", "1: KNOCK", c -> {
            c.same("least", Texts.begun("cards 1 7 0 100;").match(1), 0);
            c.same("greatest", Texts.begun("cards 1 7 20 100;").match(1), 20);
        });
        all.test("Promise 13", "2: TARGET", c -> {
            c.same("least", Texts.begun("cards 1 7 10 20;").match(2), 20);
            c.same("greatest", Texts.begun("cards 1 7 10 500;").match(2), 500);
        });
        all.test("Promise 13", "3: the round", c -> {
            WrapRuns runs = Matches.emptied("cards 1 10 10 100;");
            c.same("first", runs.match(3), 0);
            runs.deal();
            c.same("second", runs.match(3), 1);
        });
    }

    private static void turns(Sentences all) {
        all.test("Promise 13", "4: the player to move", c -> {
            WrapRuns runs = Matches.twoRuns();
            c.same("begun", runs.match(4), 0);
            runs.draw(false);
            c.same("drawn", runs.match(4), 0);
            runs.drop(51);
            c.same("dropped", runs.match(4), 1);
            c.same("dealt", Texts.begun(Matches.TWO_RUNS + "stock;knock 51;deal;").match(4), 1);
        });
        all.test("Promise 13", "(also if the round is over: the one who moved latest)", c -> {
            c.same("player 0 knocked", Texts.begun(Matches.TWO_RUNS + "stock;knock 51;").match(4), 0);
            c.same("player 1 knocked", Texts.begun(Matches.SECOND_LAID + "stock;knock 50;").match(4), 1);
            c.same("37 drops", Matches.emptied(Matches.TWO_RUNS).match(4), 0);
            c.same("38 drops", Matches.emptied(Matches.TWO_RUNS + "pile;drop 51;").match(4), 1);
        });
        all.test("Promise 13", "5: 1 if a card was drawn in this turn, otherwise 0", c -> {
            WrapRuns runs = Matches.twoRuns();
            c.same("begun", runs.match(5), 0);
            runs.draw(false);
            c.same("from the stock", runs.match(5), 1);
            runs.drop(51);
            c.same("dropped", runs.match(5), 0);
            runs.draw(true);
            c.same("from the pile", runs.match(5), 1);
            c.same("dealt", Texts.begun(Matches.TWO_RUNS + "stock;knock 51;deal;").match(5), 0);
        });
        all.test("Promise 13", "6: 1 if the round is over, otherwise 0", c -> {
            c.same("begun", Matches.twoRuns().match(6), 0);
            c.same("drawn", Texts.begun(Matches.TWO_RUNS + "stock;").match(6), 0);
            c.same("knocked", Texts.begun(Matches.TWO_RUNS + "stock;knock 51;").match(6), 1);
            c.same("dealt", Texts.begun(Matches.TWO_RUNS + "stock;knock 51;deal;").match(6), 0);
            c.same("the stock is empty", Matches.emptied(Matches.TWO_RUNS).match(6), 1);
        });
        all.test("Promise 13", "7: 1 if the match is over, otherwise 0", c -> {
            WrapRuns runs = Texts.begun(Matches.ALL_LAID + "stock;");
            runs.set(true, 45);
            c.same("the round is not over", runs.match(7), 0);
            runs.knock(51);
            c.same("45 of 45", runs.match(7), 1);
            runs.set(true, 46);
            c.same("45 of 46", runs.match(7), 0);
            runs.set(true, 44);
            c.same("45 of 44", runs.match(7), 1);
            c.same("nobody has a score", Matches.emptied(Matches.TWO_RUNS.replace("10 100", "10 20")).match(7), 0);
        });
    }

    private static void piles(Sentences all) {
        all.test("Promise 13", "8: cards of the STOCK", c -> {
            for (int hands = 7; hands <= 10; hands++) {
                c.same("hands " + hands, Texts.begun("cards 1 " + hands + " 10 100;").match(8), 51 - 2 * hands);
            }
            WrapRuns runs = Matches.twoRuns();
            runs.draw(true);
            c.same("drawn from the pile", runs.match(8), 37);
            runs.drop(51);
            runs.draw(false);
            c.same("drawn from the stock", runs.match(8), 36);
            c.same("empty", Matches.emptied(Matches.TWO_RUNS).match(8), 0);
        });
        all.test("Promise 13", "9: cards of the PILE", c -> {
            WrapRuns runs = Matches.twoRuns();
            c.same("begun", runs.match(9), 1);
            runs.draw(true);
            c.same("empty", runs.match(9), 0);
            runs.drop(51);
            c.same("dropped", runs.match(9), 1);
            c.same("38 cards", Matches.emptied(Matches.TWO_RUNS).match(9), 38);
            c.same("behind a knock", Texts.begun(Matches.TWO_RUNS + "stock;knock 51;").match(9), 2);
        });
        all.test("Promise 13", "10: the top card of the PILE", c -> {
            WrapRuns runs = Matches.twoRuns();
            c.same("begun", runs.match(10), 29);
            runs.draw(false);
            c.same("drawn from the stock", runs.match(10), 29);
            runs.drop(0);
            c.same("the card 0", runs.match(10), 0);
            runs.draw(true);
            c.same("the one below", runs.match(10), 29);
            c.same("behind a knock", Texts.begun(Matches.TWO_RUNS + "stock;knock 51;").match(10), 51);
        });
        all.test("Promise 13", "(NONE if it is empty)", c -> {
            WrapRuns runs = Matches.twoRuns();
            runs.draw(true);
            c.same("empty", runs.match(10), WrapRuns.NONE);
        });
        all.test("Promise 13", "15: changes that can be undone", c -> {
            WrapRuns runs = new WrapRuns();
            for (int changes = 0; changes <= 12; changes++) {
                c.same("changes", runs.match(15), Math.min(changes, 10));
                runs.set(false, 1);
            }
            runs.undo();
            c.same("one less", runs.match(15), 9);
        });
        all.test("Promise 13", "16: bytes in the text buffer", c -> {
            WrapRuns runs = new WrapRuns();
            c.same("none", runs.match(16), 0);
            runs.append(0, 0, 0, 0, 0);
            c.same("20", runs.match(16), 20);
            runs.truncate(1);
            c.same("1", runs.match(16), 1);
            runs.truncate(0);
            Texts.put(runs, " ".repeat(500));
            c.same("500", runs.match(16), 500);
        });
    }

    private static void scores(Sentences all) {
        all.test("Promise 13", "11: SCORE of player 0", c -> {
            c.same("begun", Matches.twoRuns().match(11), 0);
            c.same("player 0 knocked", Texts.begun(Matches.TWO_RUNS + "stock;knock 51;").match(11), 7);
            c.same("1 point", Texts.begun(Matches.leaving(46, 34) + "stock;knock 51;").match(11), 1);
            c.same("player 1 has the points", Texts.begun(Matches.leaving(46, 33) + "stock;knock 51;").match(11), 0);
            c.same("player 1 knocked, K is O", Texts.begun(Matches.SECOND_EVEN + "stock;knock 50;").match(11), 10);
        });
        all.test("Promise 13", "12: SCORE of player 1", c -> {
            c.same("begun", Matches.twoRuns().match(12), 0);
            c.same("player 0 knocked", Texts.begun(Matches.TWO_RUNS + "stock;knock 51;").match(12), 0);
            c.same("player 1 has the points", Texts.begun(Matches.leaving(46, 33) + "stock;knock 51;").match(12), 10);
            c.same("player 1 knocked", Texts.begun(Matches.SECOND_LAID + "stock;knock 50;").match(12), 28);
        });
        all.test("Promise 13", "13: the points of the latest round that was over", c -> {
            c.same("K 8 of O 15", Texts.begun(Matches.TWO_RUNS + "stock;knock 51;").match(13), 7);
            c.same("K 8 of O 7", Texts.begun(Matches.leaving(46, 32) + "stock;knock 51;").match(13), 11);
            c.same("dealt", Texts.begun(Matches.TWO_RUNS + "stock;knock 51;deal;stock;").match(13), 7);
        });
        all.test("Promise 13", "(0 if nobody won it, or none was)", c -> {
            c.same("none was", Matches.twoRuns().match(13), 0);
            c.same("nobody", Matches.emptied(Matches.TWO_RUNS).match(13), 0);
            c.same("nobody, behind one that was won", Matches.emptied(Matches.TWO_RUNS + "stock;knock 51;deal;").match(13), 0);
        });
        all.test("Promise 13", "14: the player who got them (NONE)", c -> {
            c.same("none was", Matches.twoRuns().match(14), WrapRuns.NONE);
            c.same("player 0", Texts.begun(Matches.TWO_RUNS + "stock;knock 51;").match(14), 0);
            c.same("player 0, by 1 point", Texts.begun(Matches.leaving(46, 34) + "stock;knock 51;").match(14), 0);
            c.same("player 1", Texts.begun(Matches.leaving(46, 33) + "stock;knock 51;").match(14), 1);
            c.same("player 1 knocked", Texts.begun(Matches.SECOND_LAID + "stock;knock 50;").match(14), 1);
            c.same("player 1 knocked, K is O", Texts.begun(Matches.SECOND_EVEN + "stock;knock 50;").match(14), 0);
            c.same("dealt", Texts.begun(Matches.TWO_RUNS + "stock;knock 51;deal;").match(14), 0);
            c.same("nobody", Matches.emptied(Matches.TWO_RUNS).match(14), WrapRuns.NONE);
            c.same("nobody, behind one that was won", Matches.emptied(Matches.TWO_RUNS + "stock;knock 51;deal;").match(14),
                    WrapRuns.NONE);
        });
    }

    private static void matchRange(Sentences all) {
        all.test("Promise 13", "Returns a number of the match.", c -> {
            WrapRuns runs = Texts.begun(Matches.TWO_RUNS + "stock;");
            int[] due = {7, 10, 100, 0, 0, 1, 0, 0, 36, 1, 29, 0, 0, 0, -1, 1, 0};
            for (int what = 0; what < due.length; what++) {
                c.same("match " + what, runs.match(what), due[what]);
            }
        });
        all.test("Promise 13", "Returns the number.", c -> c.same("the text buffer", new WrapRuns().match(16), 0));
        all.test("Promise 13", "Throws IllegalArgumentException if an argument is out of its range", c -> {
            WrapRuns runs = new WrapRuns();
            c.outOfRange("-1", () -> runs.match(-1));
            c.outOfRange("17", () -> runs.match(17));
            for (int what : FAR) {
                c.outOfRange("what " + what, () -> runs.match(what));
            }
        });
    }

    private static void number(Sentences all) {
        all.test("Promise 14", "Returns the NUMBER for shuffling.", c -> {
            WrapRuns runs = Texts.begun("cards 0 7 10 100;deck 0 1 2 3 13 14 15;stock;");
            long due = 0;
            for (int step = 0; step < 51; step++) {
                due = (due * 1103515245L + 12345L) % 2147483648L;
            }
            c.same("behind the first shuffling", runs.number(), due);
            runs.set(false, 20);
            runs.knock(runs.bestDrop());
            c.same("behind a knock", runs.number(), due);
            runs.deal();
            for (int step = 0; step < 51; step++) {
                due = (due * 1103515245L + 12345L) % 2147483648L;
            }
            c.same("behind the second shuffling", runs.number(), due);
        });
        all.test("Promise 14", "Returns the NUMBER.", c -> {
            WrapRuns runs = new WrapRuns();
            long due = 1;
            for (int step = 0; step < 51; step++) {
                due = due * 1103515245L + 12345L & 0x7fffffffL;
            }
            c.same("of a new object", runs.number(), due);
        });
    }

    private static void ask(Check c, WrapRuns runs, int player, int... due) {
        for (int what = 0; what < due.length; what++) {
            c.same("player " + player + " " + what, runs.player(player, what), due[what]);
        }
    }

    private static void player(Sentences all) {
        all.test("Promise 15", "Returns a number of a player.", c -> {
            WrapRuns runs = new WrapRuns();
            ask(c, runs, 0, 7, 7, 2, 1, 1, 1, 23, 1);
            ask(c, runs, 1, 7, 35, 1, 4, 0, 1, 47, 0);
        });
        all.test("Promise 15", "player: 0 or 1", c -> {
            WrapRuns runs = Texts.begun(Matches.TWO_RUNS + "stock;");
            c.same("player 0", runs.player(0, 0), 8);
            c.same("player 1", runs.player(1, 0), 7);
        });
        all.test("Promise 15", "0: cards", c -> {
            WrapRuns runs = Texts.begun("cards 1 10 10 100;");
            c.same("begun", runs.player(0, 0), 10);
            runs.draw(true);
            c.same("drawn", runs.player(0, 0), 11);
        });
        all.test("Promise 15", "1: REST", c -> {
            c.same("none is left", Matches.holding(0, 1, 2, 13, 14, 15, 16).player(0, 1), 0);
            c.same("all are left", Matches.holding(1, 4, 7, 10, 15, 18, 21).player(0, 1), 43);
        });
        all.test("Promise 15", "2: MELDS of THE LAYING", c -> {
            c.same("none", Matches.holding(1, 4, 7, 10, 15, 18, 21).player(0, 2), 0);
            c.same("three", Matches.holding(0, 1, 2, 3, 4, 5, 6, 7, 8, 9).player(0, 2), 3);
        });
        all.test("Promise 15", "3: cards that are left", c -> {
            c.same("none", Matches.holding(0, 1, 2, 13, 14, 15, 16).player(0, 3), 0);
            c.same("all", Matches.holding(1, 4, 7, 10, 15, 18, 21).player(0, 3), 7);
        });
        all.test("Promise 15", "4: SETS", c -> {
            c.same("none", Matches.holding(0, 1, 2, 13, 14, 15, 51).player(0, 4), 0);
            c.same("three", Matches.holding(4, 17, 30, 6, 19, 32, 8, 21, 34, 51).player(0, 4), 3);
            c.same("of four cards", Matches.holding(4, 17, 30, 43, 6, 19, 32).player(0, 4), 2);
        });
        all.test("Promise 15", "5: RUNS", c -> {
            c.same("none", Matches.holding(4, 17, 30, 6, 19, 32, 51).player(0, 5), 0);
            c.same("three", Matches.holding(0, 1, 2, 14, 15, 16, 28, 29, 30, 51).player(0, 5), 3);
        });
        all.test("Promise 15", "6: the sum of the POINTS of all cards", c -> {
            c.same("all are laid", Matches.holding(0, 1, 2, 13, 14, 15, 16).player(0, 6), 16);
            c.same("none is laid", Matches.holding(1, 4, 7, 10, 15, 18, 21).player(0, 6), 43);
            c.same("tens", Matches.holding(9, 22, 35, 10, 23, 36, 12).player(0, 6), 70);
        });
        all.test("Promise 15", "7: RUNS in which 0 follows 12", c -> {
            c.same("K A 2", Matches.holding(12, 0, 1, 17, 33, 43, 7).player(0, 7), 1);
            c.same("Q K A", Matches.holding(11, 12, 0, 17, 33, 43, 7).player(0, 7), 1);
            c.same("A 2 3", Matches.holding(0, 1, 2, 17, 33, 43, 7).player(0, 7), 0);
            c.same("J Q K", Matches.holding(10, 11, 12, 17, 33, 43, 7).player(0, 7), 0);
            c.same("a set of kings and one of aces", Matches.holding(12, 25, 38, 0, 13, 26, 7).player(0, 7), 0);
            c.same("two", Matches.holding(24, 25, 13, 51, 39, 40, 7).player(0, 7), 2);
            c.same("three", Matches.holding(11, 12, 0, 25, 13, 14, 51, 39, 40, 7).player(0, 7), 3);
        });
        all.test("Promise 15", "Returns the number.", c -> ask(c, Matches.twoRuns(), 1, 7, 23, 1, 4, 0, 1, 29, 0));
        all.test("Promise 15", "Throws IllegalArgumentException if an argument is out of its range", c -> {
            WrapRuns runs = new WrapRuns();
            c.outOfRange("player -1", () -> runs.player(-1, 0));
            c.outOfRange("player 2", () -> runs.player(2, 0));
            c.outOfRange("what -1", () -> runs.player(0, -1));
            c.outOfRange("what 8", () -> runs.player(1, 8));
            for (int far : FAR) {
                c.outOfRange("player " + far, () -> runs.player(far, 0));
                c.outOfRange("what " + far, () -> runs.player(0, far));
            }
        });
    }

    private static void card(Sentences all) {
        all.test("Promise 16", "Returns a card of a hand.", c -> {
            WrapRuns runs = Matches.twoRuns();
            c.same("first", runs.card(0, 0), 0);
            c.same("last", runs.card(0, 6), 51);
            runs.draw(false);
            c.same("last but one", runs.card(0, 6), 33);
            c.same("last", runs.card(0, 7), 51);
        });
        all.test("Promise 16", "player: 0 or 1", c -> {
            c.same("player 0", Matches.twoRuns().card(0, 1), 1);
            c.same("player 1", Matches.twoRuns().card(1, 1), 16);
        });
        all.test("Promise 16", "place: its place by ascending numbers, from 0", c -> {
            int[] due = {3, 16, 26, 27, 28, 45, 46};
            WrapRuns runs = Matches.twoRuns();
            for (int place = 0; place < due.length; place++) {
                c.same("place " + place, runs.card(1, place), due[place]);
            }
        });
        all.test("Promise 16", "Returns the card", c -> {
            WrapRuns runs = Texts.begun("cards 1 10 10 100;");
            runs.draw(false);
            for (int place = 0; place < 11; place++) {
                c.same("where " + place, runs.where(runs.card(0, place)), 0);
                c.isTrue("ascending " + place, place == 0 || runs.card(0, place) > runs.card(0, place - 1));
            }
        });
        all.test("Promise 16", "NONE if there is no such place.", c -> {
            WrapRuns runs = Matches.twoRuns();
            c.same("place 7 of 7", runs.card(0, 7), WrapRuns.NONE);
            runs.draw(false);
            c.same("place 8 of 8", runs.card(0, 8), WrapRuns.NONE);
            c.same("place 7 of 7 of the other one", runs.card(1, 7), WrapRuns.NONE);
            c.same("place 52", runs.card(0, 52), WrapRuns.NONE);
            c.same("place -1", runs.card(0, -1), WrapRuns.NONE);
            c.same("least", runs.card(0, Integer.MIN_VALUE), WrapRuns.NONE);
            c.same("greatest", runs.card(0, Integer.MAX_VALUE), WrapRuns.NONE);
        });
        all.test("Promise 16", "Throws IllegalArgumentException if an argument is out of its range", c -> {
            WrapRuns runs = new WrapRuns();
            c.outOfRange("player -1", () -> runs.card(-1, 0));
            c.outOfRange("player 2", () -> runs.card(2, 0));
            c.outOfRange("player 2, no such place", () -> runs.card(2, 99));
        });
    }

    private static void where(Sentences all) {
        WrapRuns runs = Texts.begun(Matches.TWO_RUNS + "stock;drop 51;");
        all.test("Promise 17", "Returns where a card lies.", c -> {
            int[] lying = new int[4];
            for (int card = 0; card < 52; card++) {
                lying[runs.where(card)]++;
            }
            int[] due = {7, 7, 2, 36};
            for (int place = 0; place < 4; place++) {
                c.same("place " + place, lying[place], due[place]);
            }
        });
        all.test("Promise 17", "card: 0 to 51", c -> {
            c.same("0", runs.where(0), 0);
            c.same("51", runs.where(51), 2);
            c.outOfRange("-1", () -> runs.where(-1));
            c.outOfRange("52", () -> runs.where(52));
        });
        all.test("Promise 17", "Returns 0 or 1: the hand of this player", c -> {
            c.same("player 0", runs.where(33), 0);
            c.same("player 1", runs.where(3), 1);
            c.same("drawn by player 1", Texts.begun(Matches.TWO_RUNS + "stock;drop 51;stock;").where(34), 1);
        });
        all.test("Promise 17", "2: the PILE", c -> {
            c.same("top", runs.where(51), 2);
            c.same("below it", runs.where(29), 2);
            c.same("drawn from it", Texts.begun(Matches.TWO_RUNS + "pile;").where(29), 0);
        });
        all.test("Promise 17", "3: the STOCK.", c -> {
            c.same("top", runs.where(34), 3);
            c.same("below it", runs.where(42), 3);
            c.same("drawn from it", Texts.begun(Matches.TWO_RUNS + "stock;").where(33), 0);
        });
        all.test("Promise 17", "Throws IllegalArgumentException if an argument is out of its range", c -> {
            for (int card : new int[] {-1, 52, 64, Integer.MIN_VALUE, Integer.MAX_VALUE}) {
                c.outOfRange("card " + card, () -> runs.where(card));
            }
        });
    }

    private static void meldOf(Sentences all) {
        WrapRuns runs = new WrapRuns();
        all.test("Promise 18", "Returns the MELD of THE LAYING in which a card of a hand lies.", c -> {
            c.same("Kc of the run", runs.meldOf(0, 12), 0);
            c.same("Ac of the run, not of the set", runs.meldOf(0, 0), 0);
            c.same("Ad of the set", runs.meldOf(0, 13), 1);
        });
        all.test("Promise 18", "player: 0 or 1", c -> {
            c.same("player 0", runs.meldOf(0, 39), 1);
            c.same("player 1", runs.meldOf(1, 4), 0);
            c.outOfRange("player -1", () -> runs.meldOf(-1, 0));
            c.outOfRange("player 2", () -> runs.meldOf(2, 0));
        });
        all.test("Promise 18", "card: a card of this player", c -> {
            WrapRuns drawn = Texts.begun(Matches.ALL_LAID + "stock;");
            c.same("the card drawn", drawn.meldOf(0, 3), 0);
            c.same("the card 0", drawn.meldOf(0, 0), 0);
            c.same("the card 51", drawn.meldOf(0, 51), WrapRuns.NONE);
        });
        all.test("Promise 18", "Returns its number", c -> {
            WrapRuns three = Matches.holding(0, 1, 2, 3, 4, 5, 6, 7, 8, 9);
            for (int card = 0; card < 10; card++) {
                c.same("card " + card, three.meldOf(0, card), Math.min(card / 3, 2));
            }
        });
        all.test("Promise 18", "NONE if the card is left.", c -> {
            c.same("7s", runs.meldOf(0, 45), WrapRuns.NONE);
            c.same("Qc", runs.meldOf(1, 11), WrapRuns.NONE);
        });
        all.test("Promise 18", "Throws IllegalArgumentException if an argument is out of its range", c -> {
            for (int player : new int[] {-1, 2, Integer.MIN_VALUE, Integer.MAX_VALUE}) {
                c.outOfRange("player " + player, () -> runs.meldOf(player, 0));
                c.outOfRange("player and card " + player, () -> runs.meldOf(player, 51));
            }
        });
        all.test("Promise 18", "Throws NoSuchElementException if the player has no such card", c -> {
            c.noSuchCard("of player 1", () -> runs.meldOf(0, 25));
            c.noSuchCard("of player 0", () -> runs.meldOf(1, 0));
            c.noSuchCard("of the stock", () -> runs.meldOf(0, 51));
            c.noSuchCard("of the pile", () -> runs.meldOf(0, runs.match(10)));
        });
    }

    private static void meld(Sentences all) {
        WrapRuns runs = new WrapRuns();
        all.test("Promise 19", "Returns a number of a MELD of THE LAYING of a hand.", c -> {
            int[][] due = {{3, 1, 12, 13}, {3, 0, 0, 3}};
            for (int meld = 0; meld < 2; meld++) {
                for (int what = 0; what < 4; what++) {
                    c.same("meld " + meld + " " + what, runs.meld(0, meld, what), due[meld][what]);
                }
            }
        });
        all.test("Promise 19", "player: 0 or 1", c -> {
            c.same("player 0", runs.meld(0, 0, 2), 12);
            c.same("player 1", runs.meld(1, 0, 2), 2);
        });
        all.test("Promise 19", "meld: its number", c -> {
            WrapRuns three = Matches.holding(0, 1, 2, 3, 4, 5, 6, 7, 8, 9);
            c.same("0", three.meld(0, 0, 2), 0);
            c.same("1", three.meld(0, 1, 2), 3);
            c.same("2", three.meld(0, 2, 2), 6);
        });
        all.test("Promise 19", "0: how many cards it has", c -> {
            c.same("run of three", Matches.holding(0, 1, 2, 3, 4, 5, 6).meld(0, 0, 0), 3);
            c.same("run of four", Matches.holding(0, 1, 2, 3, 4, 5, 6).meld(0, 1, 0), 4);
            c.same("run of five", Matches.holding(0, 1, 2, 3, 4, 30, 34).meld(0, 0, 0), 5);
            c.same("set of four", Matches.holding(4, 17, 30, 43, 6, 20, 34).meld(0, 0, 0), 4);
        });
        all.test("Promise 19", "1: 0 a SET, 1 a RUN", c -> {
            c.same("set", runs.meld(0, 1, 1), 0);
            c.same("run", runs.meld(0, 0, 1), 1);
        });
        all.test("Promise 19", "2: of a SET the RANK", c -> {
            for (int rank = 0; rank < 13; rank++) {
                WrapRuns set = Matches.holding(13 + rank, 26 + rank, 39 + rank, (rank + 2) % 13, (rank + 4) % 13,
                        (rank + 6) % 13, (rank + 8) % 13);
                c.same("rank " + rank, set.meld(0, 0, 2), rank);
            }
        });
    }

    private static void meldNumbers(Sentences all) {
        WrapRuns runs = new WrapRuns();
        all.test("Promise 19", "of a RUN the card with which it begins", c -> {
            for (int first = 0; first < 13; first++) {
                WrapRuns run = Matches.holding(39 + first, 39 + (first + 1) % 13, 39 + (first + 2) % 13, 0, 15, 30, 19);
                c.same("of spades from " + first, run.meld(0, 0, 2), 39 + first);
            }
            c.same("of five around the end", Matches.holding(23, 24, 25, 13, 14, 4, 33).meld(0, 0, 2), 23);
        });
        all.test("Promise 19", "(that of 13 cards with the RANK 0)", c -> {
            // No hand holds 13 cards: all that can be asked is that they are a run.
            c.same("13 cards", runs.kind(8191L), 2);
        });
        all.test("Promise 19", "3: the sum of its POINTS", c -> {
            c.same("K A 2", runs.meld(0, 0, 3), 13);
            c.same("aces", runs.meld(0, 1, 3), 3);
            c.same("four kings", Matches.holding(12, 25, 38, 51, 1, 17, 33).meld(0, 0, 3), 40);
            c.same("8 9 T J Q", Matches.holding(7, 8, 9, 10, 11, 17, 27).meld(0, 0, 3), 47);
        });
        all.test("Promise 19", "Returns the number; NONE if there is no such MELD.", c -> {
            for (int what = 0; what <= 3; what++) {
                c.same("2 of 2", runs.meld(0, 2, what), WrapRuns.NONE);
                c.same("1 of 1", runs.meld(1, 1, what), WrapRuns.NONE);
                c.same("0 of 0", Matches.holding(1, 4, 7, 10, 15, 18, 21).meld(0, 0, what), WrapRuns.NONE);
                c.same("-1", runs.meld(0, -1, what), WrapRuns.NONE);
                c.same("greatest", runs.meld(0, Integer.MAX_VALUE, what), WrapRuns.NONE);
                c.same("least", runs.meld(0, Integer.MIN_VALUE, what), WrapRuns.NONE);
            }
        });
        all.test("Promise 19", "Throws IllegalArgumentException if an argument is out of its range", c -> {
            c.outOfRange("player -1", () -> runs.meld(-1, 0, 0));
            c.outOfRange("player 2", () -> runs.meld(2, 0, 0));
            c.outOfRange("what -1", () -> runs.meld(0, 0, -1));
            c.outOfRange("what 4", () -> runs.meld(0, 0, 4));
            c.outOfRange("what 4 of no meld", () -> runs.meld(0, 9, 4));
            c.outOfRange("player 2 of no meld", () -> runs.meld(2, 9, 0));
        });
    }
}
