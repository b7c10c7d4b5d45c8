/** The sentences of the terms about drawing, dropping, and when a round is over. */
final class TurnSentences {
    private TurnSentences() {
    }

    static void test(Sentences all) {
        drawing(all);
        dropping(all);
        emptyStock(all);
        knocking(all);
    }

    private static void drawing(Sentences all) {
        all.test("Terms 3", "The player to move draws the top card of the STOCK or of the PILE", c -> {
            WrapRuns runs = Matches.twoRuns();
            c.same("stock", runs.draw(false), 33);
            c.same("left in the stock", runs.match(8), 36);
            c.same("the pile stays", runs.match(9), 1);
            runs.drop(51);
            c.same("pile", runs.draw(true), 51);
            c.same("left in the pile", runs.match(9), 1);
            c.same("under it", runs.match(10), 29);
            c.same("the stock stays", runs.match(8), 36);
            runs.drop(45);
            c.same("stock again", runs.draw(false), 34);
        });
        all.test("Terms 3", "and has HANDS + 1 cards then.", c -> {
            for (int hands = 7; hands <= 10; hands++) {
                WrapRuns runs = Texts.begun("cards 1 " + hands + " 10 100;");
                c.same("begun", runs.player(0, 0), hands);
                runs.draw(false);
                c.same("drawn", runs.player(0, 0), hands + 1);
                c.same("the other one", runs.player(1, 0), hands);
                runs.drop(runs.card(0, 0));
                c.same("dropped", runs.player(0, 0), hands);
                runs.draw(true);
                c.same("drawn from the pile", runs.player(1, 0), hands + 1);
                c.isTrue("greatest card", runs.card(1, hands) >= 0);
                c.same("no more", runs.card(1, hands + 1), WrapRuns.NONE);
            }
        });
    }

    private static void dropping(Sentences all) {
        all.test("Terms 3", "Then this player drops a card onto the PILE", c -> {
            WrapRuns runs = Matches.twoRuns();
            runs.draw(false);
            runs.drop(0);
            c.same("the least card", runs.match(10), 0);
            c.same("lies there", runs.where(0), 2);
            c.same("cards of the pile", runs.match(9), 2);
            c.same("the one below", runs.where(29), 2);
        });
        all.test("Terms 3", "but not the one that was drawn from the PILE in this turn", c -> {
            WrapRuns runs = Matches.twoRuns();
            runs.draw(true);
            c.same("drawn from the pile", runs.drop(29), -105);
            c.same("still held", runs.where(29), 0);
            c.same("another one", runs.drop(51), 37);
            c.same("drawn from the stock", runs.drop(runs.draw(false)), 36);
            c.same("drawn from the pile next", runs.draw(true), 33);
            c.same("that one", runs.drop(33), -105);
            c.same("the one of an earlier turn", runs.drop(29), 36);
            runs.drop(runs.draw(false));
            runs.draw(false);
            c.same("the latest of an earlier turn", runs.drop(33), 34);
        });
        all.test("Terms 3", "the other one is to move then.", c -> {
            WrapRuns runs = Matches.twoRuns();
            for (int turn = 0; turn < 5; turn++) {
                c.same("turn " + turn, runs.match(4), turn % 2);
                int card = runs.draw(false);
                c.same("not behind the draw " + turn, runs.match(4), turn % 2);
                runs.drop(card);
            }
            c.same("nothing is drawn then", runs.match(5), 0);
        });
    }

    private static void emptyStock(Sentences all) {
        all.test("Terms 3", "If the STOCK is empty behind a drop, the round is over", c -> {
            WrapRuns runs = Matches.twoRuns();
            for (int left = 36; left > 0; left--) {
                c.same("stock", runs.drop(runs.draw(false)), left);
            }
            c.same("one card left", runs.match(6), 0);
            int last = runs.draw(false);
            c.same("the stock is empty", runs.match(8), 0);
            c.same("but not behind a drop", runs.match(6), 0);
            c.same("drop", runs.drop(last), 0);
            c.same("over", runs.match(6), 1);
            c.same("no draw", runs.draw(true), -102);
        });
        all.test("Terms 3", "the round is over, and nobody has won it.", c -> {
            WrapRuns runs = Texts.begun(Matches.TWO_RUNS + "stock;knock 51;deal;");
            c.same("points ahead", runs.match(13), 7);
            Matches.empty(runs);
            c.same("over", runs.match(6), 1);
            c.same("points", runs.match(13), 0);
            c.same("winner", runs.match(14), WrapRuns.NONE);
            c.same("score of player 0", runs.match(11), 7);
            c.same("score of player 1", runs.match(12), 0);
            c.same("next round", runs.deal(), 2);
        });
        all.test("Terms 3", "Instead of dropping, the player can knock with a card", c -> {
            // Also with the last card of the stock: behind a knock the round is not over by an empty stock.
            WrapRuns runs = Matches.twoRuns();
            for (int turn = 0; turn < 36; turn++) {
                runs.drop(runs.draw(false));
            }
            int last = runs.draw(false);
            c.same("the stock is empty", runs.match(8), 0);
            c.same("points", runs.knock(last), 15 - 10);
            c.same("winner", runs.match(14), 0);
            c.same("score", runs.match(11), 5);
        });
    }

    private static void knocking(Sentences all) {
        all.test("Terms 3", "if REST of the other cards is KNOCK or less", c -> {
            // Without Ks it is 8, without 8h it is 10, without Ac it is 23.
            WrapRuns runs = Matches.twoRuns();
            runs.draw(false);
            runs.set(false, 7);
            c.same("8 of 7", runs.knock(51), -1006);
            c.same("10 of 7", runs.knock(33), -1006);
            runs.set(false, 8);
            c.same("10 of 8", runs.knock(33), -1006);
            c.same("8 of 8", runs.knock(51), 7);
            runs.undo();
            runs.set(false, 9);
            c.same("8 of 9", runs.knock(51), 7);
            runs.undo();
            runs.set(false, 20);
            c.same("23 of 20", runs.knock(0), -1006);
            WrapRuns none = Matches.allLaid();
            none.draw(false);
            none.set(false, 0);
            c.same("10 of 0", none.knock(3), -1006);
            c.same("0 of 0", none.knock(51), 45);
        });
        all.test("Terms 3", "it is dropped, and the round is over.", c -> {
            WrapRuns runs = Matches.twoRuns();
            runs.draw(false);
            runs.knock(51);
            c.same("top of the pile", runs.match(10), 51);
            c.same("cards of the pile", runs.match(9), 2);
            c.same("cards of the hand", runs.player(0, 0), 7);
            c.same("over", runs.match(6), 1);
            c.same("no draw", runs.draw(false), -102);
            c.same("no drop", runs.drop(0), -102);
        });
    }
}
