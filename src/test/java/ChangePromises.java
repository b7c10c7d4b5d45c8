/** The sentences of the promises 1 to 7: a new object, and the changes. */
final class ChangePromises {
    private ChangePromises() {
    }

    static void test(Sentences all) {
        newObject(all);
        load(all);
        draw(all);
        drop(all);
        knock(all);
        deal(all);
        set(all);
    }

    private static void newObject(Sentences all) {
        all.test("Promise 1", "Creates a match as by the text \"cards 1 7 10 100; deck 12 0 1 26 39 13 45 25 11 24 2 3 4 30;\"",
                c -> {
            WrapRuns runs = new WrapRuns();
            String text = "cards 1 7 10 100; deck 12 0 1 26 39 13 45 25 11 24 2 3 4 30;";
            c.same("state", Matches.state(runs), Matches.state(Texts.begun(text)));
            int[] due = {7, 10, 100, 0, 0, 0, 0, 0, 37, 1};
            for (int what = 0; what < due.length; what++) {
                c.same("match " + what, runs.match(what), due[what]);
            }
            c.same("hand 0", Texts.laying(runs, 0), "Kc,Ac,2c Ad,Ah,As -7s");
            c.same("hand 1", Texts.laying(runs, 1), "3c,4c,5c -Qc,Qd,Kd,5h");
            c.same("nothing to undo", runs.undo(), WrapRuns.NONE);
        });
        all.test("Promise 1", "with an empty text buffer", c -> {
            WrapRuns runs = new WrapRuns();
            c.same("bytes", runs.match(16), 0);
            c.same("load", runs.load(), -31);
        });
        all.test("Promise 1", "and empty slots.", c -> {
            WrapRuns runs = new WrapRuns();
            c.throwsA("slot 0", IllegalStateException.class, () -> runs.restore(0));
            c.throwsA("slot 1", IllegalStateException.class, () -> runs.restore(1));
        });
    }

    private static void load(Sentences all) {
        all.test("Promise 2", "Begins a match by the text buffer, which replaces everything", c -> {
            String text = "cards 9 8 5 60;";
            String due = Matches.state(Texts.begun(text));
            String[] before = {"", "stock;", "pile;", "pile;drop 51;", "stock;knock 51;", "stock;knock 51;deal;stock;"};
            for (String moves : before) {
                WrapRuns runs = Texts.begun(Matches.ALL_LAID + moves);
                Texts.load(runs, text);
                c.same("state behind " + moves, Matches.state(runs), due);
            }
            WrapRuns other = Texts.begun(Matches.leaving(46, 33) + "stock;knock 51;");
            Texts.load(other, text);
            c.same("state behind points of player 1", Matches.state(other), due);
            WrapRuns spoiled = new WrapRuns();
            Texts.load(spoiled, Matches.ALL_LAID + "stock;knock 51;x");
            Texts.load(spoiled, text);
            c.same("state behind a text with an error", Matches.state(spoiled), due);
        });
        all.test("Promise 2", "but the slots.", c -> {
            WrapRuns runs = Matches.twoRuns();
            String kept = Matches.state(runs);
            runs.keep(0);
            Texts.load(runs, "cards 9 8 5 60;");
            c.throwsA("slot 1 stays empty", IllegalStateException.class, () -> runs.restore(1));
            c.same("slot 0", runs.restore(0), 0);
            c.same("as kept", Matches.state(runs), kept);
        });
        all.test("Promise 2", "The buffer is empty then in every case.", c -> {
            WrapRuns runs = new WrapRuns();
            String[] texts = {"cards 1 7 10 100;", "cards 1 7 10 100;x", "?", "cards 1 7 10", " ", ""};
            for (String text : texts) {
                Texts.put(runs, text);
                runs.load();
                c.same("behind " + text, runs.match(16), 0);
                c.same("load behind " + text, runs.load(), -31);
            }
        });
        all.test("Promise 2", "Returns HANDS", c -> {
            for (int hands = 7; hands <= 10; hands++) {
                c.same("hands", Texts.load(new WrapRuns(), "cards 1 " + hands + " 10 100;"), hands);
            }
        });
        all.test("Promise 2", "-30 - (8 * position + code) if the text has an error.", c -> {
            c.same("code 1 at 0", Texts.load(new WrapRuns(), ""), -31);
            c.same("code 2 at 8", Texts.load(new WrapRuns(), "cards 1 6"), -96);
            c.same("code 3 at 25", Texts.load(new WrapRuns(), "cards 1 7 10 100; deck 1 1;"), -30 - (8 * 25 + 3));
            c.same("code 4 at 21", Texts.load(new WrapRuns(), "cards 1 7 10 100;deal;"), -30 - (8 * 21 + 4));
            c.same("code 1 at 500", Texts.load(new WrapRuns(), " ".repeat(500)), -30 - (8 * 500 + 1));
            c.same("code 1 at 499", Texts.load(new WrapRuns(), " ".repeat(499) + ";"), -30 - (8 * 499 + 1));
        });
    }

    private static void draw(Sentences all) {
        all.test("Promise 3", "Draws a card.", c -> {
            WrapRuns runs = Matches.twoRuns();
            runs.draw(false);
            c.same("held", runs.where(33), 0);
            c.same("cards", runs.player(0, 0), 8);
            c.same("drawn", runs.match(5), 1);
            c.same("the same player", runs.match(4), 0);
        });
        all.test("Promise 3", "isPile: whether it is drawn from the PILE, or from the STOCK", c -> {
            WrapRuns runs = Matches.twoRuns();
            c.same("pile", runs.draw(true), 29);
            c.same("the pile is empty", runs.match(9), 0);
            c.same("the stock stays", runs.match(8), 37);
            runs.undo();
            c.same("stock", runs.draw(false), 33);
            c.same("the pile stays", runs.match(9), 1);
            c.same("the stock has one less", runs.match(8), 36);
        });
        all.test("Promise 3", "Returns the card", c -> {
            WrapRuns least = Texts.begun("cards 1 7 10 100;deck 1 2 3 4 5 6 7 14 15 16 17 18 19 20 0 51;");
            c.same("the least card from the pile", least.draw(true), 0);
            least.drop(1);
            c.same("the greatest card from the stock", least.draw(false), 51);
            WrapRuns other = Texts.begun("cards 1 7 10 100;deck 1 2 3 4 5 6 7 14 15 16 17 18 19 20 51 0;");
            c.same("the least card from the stock", other.draw(false), 0);
            c.same("it is held", other.where(0), 0);
            other.undo();
            c.same("the greatest card from the pile", other.draw(true), 51);
        });
        all.test("Promise 3", "refused: 2, 3 (told as -100 minus the reason).", c -> {
            WrapRuns runs = Matches.twoRuns();
            runs.draw(false);
            c.same("3, stock", runs.draw(false), -103);
            c.same("3, pile", runs.draw(true), -103);
            runs.knock(51);
            c.same("2, stock", runs.draw(false), -102);
            c.same("2, pile", runs.draw(true), -102);
            WrapRuns empty = Matches.emptied(Matches.TWO_RUNS);
            c.same("2, the stock is empty", empty.draw(false), -102);
        });
    }

    private static void drop(Sentences all) {
        all.test("Promise 4", "Drops a card.", c -> {
            WrapRuns runs = Texts.begun(Matches.TWO_RUNS + "stock;");
            runs.drop(51);
            c.same("where", runs.where(51), 2);
            c.same("top", runs.match(10), 51);
            c.same("cards", runs.player(0, 0), 7);
            c.same("mover", runs.match(4), 1);
            c.same("drawn", runs.match(5), 0);
        });
        all.test("Promise 4", "card: a card of the player to move", c -> {
            for (int card : new int[] {0, 1, 2, 13, 14, 15, 33, 51}) {
                WrapRuns runs = Texts.begun(Matches.TWO_RUNS + "stock;");
                c.same("card " + card, runs.drop(card), 36);
                c.same("top " + card, runs.match(10), card);
            }
            WrapRuns second = Texts.begun(Matches.TWO_RUNS + "stock;drop 51;stock;");
            c.same("of player 1", second.drop(26), 35);
            c.same("it lies on the pile", second.match(10), 26);
        });
        all.test("Promise 4", "Returns how many cards the STOCK has then", c -> {
            WrapRuns runs = Matches.twoRuns();
            runs.draw(true);
            c.same("none was drawn from it", runs.drop(51), 37);
            for (int left = 36; left >= 0; left--) {
                c.same("left", runs.drop(runs.draw(false)), left);
            }
            c.same("of 10 cards each", Texts.begun("cards 1 10 10 100;deck 3;stock;").drop(3), 30);
        });
        all.test("Promise 4", "refused: 2, 4, 5 (told as -100 minus the reason).", c -> {
            WrapRuns runs = Matches.twoRuns();
            c.same("4", runs.drop(0), -104);
            runs.draw(true);
            c.same("5", runs.drop(29), -105);
            runs.knock(51);
            c.same("2", runs.drop(29), -102);
            WrapRuns empty = Matches.emptied(Matches.TWO_RUNS);
            c.same("2, the stock is empty", empty.drop(0), -102);
        });
        all.test("Promise 4", "Throws NoSuchElementException if the player has no such card", c -> {
            WrapRuns runs = Texts.begun(Matches.TWO_RUNS + "stock;");
            for (int card : new int[] {26, 29, 34, -1, 52, 53, 64, -13, Integer.MIN_VALUE, Integer.MAX_VALUE}) {
                c.noSuchCard("card " + card, () -> runs.drop(card));
            }
            runs.drop(51);
            c.noSuchCard("dropped by the other one", () -> runs.drop(51));
            c.noSuchCard("of the other one", () -> runs.drop(0));
        });
    }

    private static void knock(Sentences all) {
        all.test("Promise 5", "Knocks with a card.", c -> {
            WrapRuns runs = Texts.begun(Matches.TWO_RUNS + "stock;");
            runs.knock(51);
            c.same("top", runs.match(10), 51);
            c.same("where", runs.where(51), 2);
            c.same("over", runs.match(6), 1);
            c.same("the mover stays", runs.match(4), 0);
            c.same("score", runs.match(11), 7);
        });
        all.test("Promise 5", "card: a card of the player to move", c -> {
            c.same("the card drawn", Texts.begun(Matches.TWO_RUNS + "stock;").knock(33), 5);
            c.same("another", Texts.begun(Matches.TWO_RUNS + "stock;").knock(51), 7);
            // 2c 3c and two aces are left without Ac.
            c.same("the least card", Texts.begun(Matches.leaving(39, 33).replace("29 51", "29 26") + "stock;").knock(0), 8 - 7);
            WrapRuns second = Texts.begun(Matches.SECOND_LAID + "stock;");
            c.same("of player 1", second.knock(50), 28);
            c.same("player 1 has the points", second.match(12), 28);
        });
        all.test("Promise 5", "Returns the points that the one who knocked gets", c -> {
            c.same("K 8 of O 15", Texts.begun(Matches.TWO_RUNS + "stock;").knock(51), 7);
            c.same("K 0", Texts.begun(Matches.ALL_LAID + "stock;").knock(51), 45);
            c.same("the least", Texts.begun(Matches.leaving(46, 34) + "stock;").knock(51), 1);
            c.same("K 0 and O 0", Texts.begun(Matches.leaving(3, 48) + "stock;").knock(51), 20);
        });
        all.test("Promise 5", "or the negative of those that the other one gets", c -> {
            WrapRuns runs = Texts.begun(Matches.leaving(46, 33) + "stock;");
            c.same("K 8 of O 8", runs.knock(51), -10);
            c.same("score of the other one", runs.match(12), 10);
            WrapRuns second = Texts.begun(Matches.SECOND_EVEN + "stock;");
            c.same("player 1 knocks", second.knock(50), -10);
            c.same("score of player 0", second.match(11), 10);
            c.same("K 8 of O 7", Texts.begun(Matches.leaving(46, 32) + "stock;").knock(51), -11);
            c.same("K 8 of O 0", Texts.begun(Matches.leaving(46, 48) + "stock;").knock(51), -18);
        });
        all.test("Promise 5", "refused: 2, 4, 5, 6 (told as -1000 minus the reason).", c -> {
            WrapRuns runs = Matches.twoRuns();
            c.same("4", runs.knock(51), -1004);
            runs.draw(true);
            c.same("5", runs.knock(29), -1005);
            runs.set(false, 3);
            c.same("6: 4 of 3", runs.knock(51), -1006);
            runs.set(false, 4);
            c.same("4 of 4", runs.knock(51), 11);
            c.same("2", runs.knock(29), -1002);
        });
        all.test("Promise 5", "Throws NoSuchElementException if the player has no such card", c -> {
            WrapRuns runs = Texts.begun(Matches.TWO_RUNS + "stock;");
            for (int card : new int[] {26, 29, 34, -1, 52, 53, 64, -13, Integer.MIN_VALUE, Integer.MAX_VALUE}) {
                c.noSuchCard("card " + card, () -> runs.knock(card));
            }
            runs.knock(51);
            c.noSuchCard("knocked with already", () -> runs.knock(51));
        });
    }

    private static void deal(Sentences all) {
        all.test("Promise 6", "Deals the next round", c -> {
            WrapRuns runs = Texts.begun(Matches.TWO_RUNS + "stock;knock 51;");
            runs.deal();
            int[] due = {7, 10, 100, 1, 1, 0, 0, 0, 37, 1};
            for (int what = 0; what < due.length; what++) {
                c.same("match " + what, runs.match(what), due[what]);
            }
            c.same("hand 0", runs.player(0, 0), 7);
            c.same("hand 1", runs.player(1, 0), 7);
            c.same("the score stays", runs.match(11), 7);
            WrapRuns pile = Texts.begun(Matches.TWO_RUNS + "pile;knock 51;deal;");
            c.same("nothing is drawn", pile.match(5), 0);
            c.isTrue("any card may be dropped", pile.draw(false) >= 0 && pile.drop(pile.card(1, 0)) == 36);
        });
        all.test("Promise 6", "the cards are shuffled anew (from the order of their numbers, with the NUMBER as it is).", c -> {
            WrapRuns runs = Texts.begun(Matches.TWO_RUNS + "stock;knock 51;");
            long number = runs.number();
            c.isTrue("the NUMBER can be told in a text", number <= 999999999);
            runs.deal();
            WrapRuns fresh = Texts.begun("cards " + number + " 7 10 100;");
            c.same("NUMBER", runs.number(), fresh.number());
            for (int card = 0; card < 52; card++) {
                c.same("card " + card, runs.where(card), fresh.where(card));
            }
            c.same("pile", runs.match(10), fresh.match(10));
            c.same("stock", runs.draw(false), fresh.draw(false));
        });
        all.test("Promise 6", "Returns its number", c -> {
            WrapRuns runs = Matches.emptied("cards 1 10 10 100;");
            for (int round = 1; round <= 4; round++) {
                c.same("deal", runs.deal(), round);
                c.same("round", runs.match(3), round);
                Matches.empty(runs);
            }
        });
        all.test("Promise 6", "refused: 7, 8.", c -> {
            WrapRuns runs = Matches.allLaid();
            c.same("7, begun", runs.deal(), -7);
            runs.draw(false);
            c.same("7, drawn", runs.deal(), -7);
            runs.set(true, 45);
            runs.knock(51);
            c.same("8", runs.deal(), -8);
            runs.set(true, 46);
            c.same("not refused", runs.deal(), 1);
        });
    }

    private static void set(Sentences all) {
        all.test("Promise 7", "Sets KNOCK (0 to 20) or TARGET (20 to 500).", c -> {
            WrapRuns runs = new WrapRuns();
            runs.set(false, 0);
            c.same("KNOCK 0", runs.match(1), 0);
            runs.set(false, 20);
            c.same("KNOCK 20", runs.match(1), 20);
            c.same("TARGET stays", runs.match(2), 100);
            runs.set(true, 20);
            c.same("TARGET 20", runs.match(2), 20);
            runs.set(true, 500);
            c.same("TARGET 500", runs.match(2), 500);
            c.same("KNOCK stays", runs.match(1), 20);
        });
        all.test("Promise 7", "isTarget: whether TARGET is set, or KNOCK", c -> {
            WrapRuns runs = new WrapRuns();
            runs.set(true, 20);
            c.same("TARGET", runs.match(2), 20);
            c.same("not KNOCK", runs.match(1), 10);
            runs.set(false, 20);
            c.same("KNOCK", runs.match(1), 20);
        });
        all.test("Promise 7", "value: the number", c -> {
            WrapRuns runs = new WrapRuns();
            for (int value = 0; value <= 20; value++) {
                runs.set(false, value);
                c.same("KNOCK", runs.match(1), value);
            }
            for (int value = 20; value <= 500; value += 16) {
                runs.set(true, value);
                c.same("TARGET", runs.match(2), value);
            }
        });
        all.test("Promise 7", "Returns the number before.", c -> {
            WrapRuns runs = new WrapRuns();
            c.same("KNOCK", runs.set(false, 0), 10);
            c.same("TARGET", runs.set(true, 500), 100);
            c.same("KNOCK again", runs.set(false, 5), 0);
            c.same("TARGET again", runs.set(true, 20), 500);
        });
        all.test("Promise 7", "Throws IllegalArgumentException if an argument is out of its range", c -> {
            WrapRuns runs = new WrapRuns();
            for (int value : new int[] {-1, 21, 100, Integer.MIN_VALUE, Integer.MAX_VALUE}) {
                c.outOfRange("KNOCK " + value, () -> runs.set(false, value));
            }
            for (int value : new int[] {0, 19, 501, -1, Integer.MIN_VALUE, Integer.MAX_VALUE}) {
                c.outOfRange("TARGET " + value, () -> runs.set(true, value));
            }
            c.same("KNOCK stays", runs.match(1), 10);
            c.same("TARGET stays", runs.match(2), 100);
        });
    }
}
