/** Promises 1 and 3 to 10: a new object, and the changes but for the text of load(). */
public final class ChangesTest {
    private static final Check CHECK = new Check();

    private ChangesTest() {
    }

    public static void main(String[] args) {
        newObject();
        drawing();
        dropping();
        emptyStock();
        knocking();
        knockPoints();
        addingCards();
        dealing();
        setting();
        undoing();
        keeping();
        CHECK.end("ChangesTest");
    }

    private static void newObject() {
        WrapRuns runs = new WrapRuns();
        CHECK.same("1 state", Matches.state(runs), Matches.state(Texts.begun(
                "cards 1 7 10 100; deck 12 0 1 26 39 13 45 25 11 24 2 3 4 30;")));
        CHECK.same("1 text buffer", runs.match(16), 0);
        CHECK.same("1 undo", runs.undo(), WrapRuns.NONE);
        CHECK.throwsA("1 slot 0", IllegalStateException.class, () -> runs.restore(0));
        CHECK.throwsA("1 slot 1", IllegalStateException.class, () -> runs.restore(1));
        CHECK.same("1 report", runs.reportByte(0), WrapRuns.NONE);
        int[] hand = {0, 1, 12, 13, 26, 39, 45};
        int[] other = {2, 3, 4, 11, 24, 25, 30};
        for (int place = 0; place < 7; place++) {
            CHECK.same("1 card 0 " + place, runs.card(0, place), hand[place]);
            CHECK.same("1 card 1 " + place, runs.card(1, place), other[place]);
        }
        int[] due = {7, 10, 100, 0, 0, 0, 0, 0, 37, 1};
        for (int what = 0; what < due.length; what++) {
            CHECK.same("1 match " + what, runs.match(what), due[what]);
        }
    }

    private static void drawing() {
        WrapRuns runs = Matches.twoRuns();
        CHECK.same("3 stock", runs.draw(false), 33);
        CHECK.same("3 stock left", runs.match(8), 36);
        CHECK.same("3 pile left", runs.match(9), 1);
        CHECK.same("3 is held", runs.where(33), 0);
        CHECK.same("3 again", runs.draw(false), -103);
        CHECK.same("3 again, pile", runs.draw(true), -103);
        CHECK.same("3 refused leaves the pile", runs.match(10), 29);
        runs = Matches.twoRuns();
        CHECK.same("3 pile", runs.draw(true), 29);
        CHECK.same("3 pile is empty", runs.match(9), 0);
        CHECK.same("3 top of it", runs.match(10), WrapRuns.NONE);
        CHECK.same("3 stock stays", runs.match(8), 37);
        runs = Matches.emptied(Matches.TWO_RUNS);
        CHECK.same("3 round over", runs.draw(false), -102);
        CHECK.same("3 round over, pile", runs.draw(true), -102);
    }

    private static void dropping() {
        WrapRuns runs = Matches.twoRuns();
        CHECK.same("4 not drawn", runs.drop(51), -104);
        CHECK.noSuchCard("4 other's card", () -> Matches.twoRuns().drop(26));
        CHECK.noSuchCard("4 card -1", () -> Matches.twoRuns().drop(-1));
        CHECK.noSuchCard("4 card 52", () -> Matches.twoRuns().drop(52));
        CHECK.noSuchCard("4 card 64", () -> Matches.twoRuns().drop(64));
        CHECK.noSuchCard("4 least int", () -> Matches.twoRuns().drop(Integer.MIN_VALUE));
        runs.draw(true);
        CHECK.same("4 from the pile", runs.drop(29), -105);
        CHECK.same("4 another one", runs.drop(51), 37);
        CHECK.same("4 on the pile", runs.match(10), 51);
        CHECK.same("4 where", runs.where(51), 2);
        CHECK.same("4 the other one moves", runs.match(4), 1);
        CHECK.same("4 nothing drawn", runs.match(5), 0);
        CHECK.same("4 stock card", runs.draw(false), 33);
        CHECK.same("4 the card drawn from the stock", runs.drop(33), 36);
        CHECK.same("4 first one moves", runs.match(4), 0);
        CHECK.same("4 draw what was dropped", runs.draw(true), 33);
        CHECK.same("4 the one of an earlier turn", runs.drop(29), 36);
        runs.drop(runs.draw(false));
        CHECK.same("4 draw from the stock", runs.draw(false), 42);
        CHECK.same("4 the one from the pile of an earlier turn", runs.drop(33), 34);
        WrapRuns over = Matches.emptied(Matches.TWO_RUNS);
        CHECK.same("4 round over", over.drop(over.card(over.match(4), 0)), -102);
        CHECK.noSuchCard("4 exception ahead of refusal", () -> over.drop(over.card(1 - over.match(4), 0)));
    }

    private static void emptyStock() {
        WrapRuns runs = Matches.twoRuns();
        for (int turn = 0; turn < 36; turn++) {
            CHECK.same("4 stock " + turn, runs.drop(runs.draw(false)), 36 - turn);
        }
        CHECK.same("4 not yet over", runs.match(6), 0);
        CHECK.same("4 player", runs.match(4), 0);
        int last = runs.draw(false);
        CHECK.same("4 stock is empty, but not behind a drop", runs.match(6), 0);
        CHECK.same("4 last one", runs.drop(last), 0);
        CHECK.same("4 over", runs.match(6), 1);
        CHECK.same("4 latest mover", runs.match(4), 0);
        CHECK.same("4 points", runs.match(13), 0);
        CHECK.same("4 nobody", runs.match(14), WrapRuns.NONE);
        CHECK.same("4 match goes on", runs.match(7), 0);
        CHECK.same("4 deal", runs.deal(), 1);
        CHECK.same("4 score 0", runs.match(11), 0);
        CHECK.same("4 score 1", runs.match(12), 0);
    }

    private static void knocking() {
        WrapRuns runs = Matches.twoRuns();
        CHECK.same("5 not drawn", runs.knock(51), -1004);
        CHECK.noSuchCard("5 other's card", () -> Matches.twoRuns().knock(26));
        CHECK.noSuchCard("5 card 52", () -> Matches.twoRuns().knock(52));
        CHECK.noSuchCard("5 card -1", () -> Matches.twoRuns().knock(-1));
        runs.draw(true);
        CHECK.same("5 from the pile, ahead of 6", runs.knock(29), -1005);
        runs.set(false, 3);
        CHECK.same("5 above KNOCK", runs.knock(51), -1006);
        CHECK.same("5 nothing changed", runs.match(6), 0);
        runs.set(false, 4);
        CHECK.same("5 KNOCK itself", runs.knock(51), 15 - 4);
        CHECK.same("5 over", runs.match(6), 1);
        CHECK.same("5 dropped", runs.match(10), 51);
        CHECK.same("5 hand", runs.player(0, 0), 7);
        CHECK.same("5 latest mover", runs.match(4), 0);
        CHECK.same("5 score", runs.match(11), 11);
        CHECK.same("5 points", runs.match(13), 11);
        CHECK.same("5 winner", runs.match(14), 0);
        CHECK.same("5 added cards stay where they are", runs.where(3), 1);
        CHECK.same("5 again", runs.knock(0), -1002);
        CHECK.noSuchCard("5 exception ahead of refusal", () -> runs.knock(51));
    }

    private static void knockPoints() {
        WrapRuns runs = Matches.allLaid();
        runs.draw(false);
        CHECK.same("5 K 0: no card is added", runs.knock(51), 6 + 4 + 7 + 8 + 20);
        // Player 1 has 2 sets, and a seventh card of as many points as the one who knocks keeps.
        String even = "cards 5 7 10 100;deck 0 1 2 13 14 15 46 9 22 35 10 23 36 33 29 51;";
        runs = Texts.begun(even);
        runs.draw(false);
        CHECK.same("5 K is O", runs.knock(51), -10);
        CHECK.same("5 winner", runs.match(14), 1);
        CHECK.same("5 points", runs.match(13), 10);
        CHECK.same("5 score", runs.match(12), 10);
        CHECK.same("5 own score", runs.match(11), 0);
        runs = Texts.begun(even.replace(" 36 33 29", " 36 32 29"));
        runs.draw(false);
        CHECK.same("5 K is above O", runs.knock(51), -(8 - 7 + 10));
        runs = Texts.begun(even.replace(" 36 33 29", " 36 34 29"));
        runs.draw(false);
        CHECK.same("5 K is below O", runs.knock(51), 9 - 8);
        CHECK.same("5 the one who knocked wins", runs.match(14), 0);
        secondKnocks();
        runs = Texts.begun(even.replace(" 36 33 29", " 36 37 29"));
        runs.draw(false);
        CHECK.same("5 a queen has 10 points", runs.knock(51), 10 - 8);
    }

    private static void secondKnocks() {
        String hands = "cards 5 7 10 20;deck 9 22 35 10 23 36 33 0 1 2 13 14 15 46 29 51 50;stock;drop 51;stock;";
        WrapRuns runs = Texts.begun(hands);
        CHECK.same("5 player 1, K is O", runs.knock(50), -10);
        CHECK.same("5 player 0 wins", runs.match(14), 0);
        CHECK.same("5 player 0 has them", runs.match(11), 10);
        CHECK.same("5 player 1 moved latest", runs.match(4), 1);
        runs = Texts.begun(hands.replace(" 2 13 14 15 46", " 2 3 13 14 15").replace("10 20", "10 28"));
        CHECK.same("5 player 1, K 0", runs.knock(50), 28);
        CHECK.same("5 player 1 wins", runs.match(14), 1);
        CHECK.same("5 28 of 28 of player 1", runs.match(7), 1);
        CHECK.same("5 the match is over", runs.deal(), -8);
    }

    private static void addingCards() {
        // The run 2c 3c 4c takes Ac ahead of it, 5c and 6c behind it, and then Kc ahead of Ac.
        WrapRuns runs = Texts.begun("cards 5 7 20 100;deck 1 2 3 22 35 48 40 4 5 0 12 23 38 30 51 50;");
        runs.draw(false);
        CHECK.same("5 row is added", runs.ifKnock(50, 3), 4);
        CHECK.same("5 not these", runs.ifKnock(50, 2), 10 + 10 + 5);
        CHECK.same("5 K", runs.ifKnock(50, 1), 2);
        CHECK.same("5 knock", runs.knock(50), 23);
        // A set of three takes the fourth one; a set of four takes none; a run has no room for one apart.
        runs = Texts.begun("cards 5 7 20 100;deck 2 3 4 22 35 48 40 9 6 0 25 38 27 30 51 50;");
        runs.draw(false);
        CHECK.same("5 fourth one", runs.ifKnock(50, 3), 1);
        CHECK.same("5 others stay", runs.ifKnock(50, 2), 7 + 1 + 10 + 10 + 2 + 5);
        // 10c can go to the set and to the run: the set is found later, so the run takes it, then Jc too.
        runs = Texts.begun("cards 5 7 20 100;deck 6 7 8 22 35 48 40 9 10 0 25 38 27 30 51 50;");
        runs.draw(false);
        CHECK.same("5 least meld", runs.ifKnock(50, 3), 2);
        CHECK.same("5 rest then", runs.ifKnock(50, 2), 1 + 10 + 10 + 2 + 5);
        // The own melds of the other one stay with that one: nothing of 4h 5h 6h is added.
        runs = Texts.begun("cards 5 7 20 100;deck 26 27 28 9 22 35 40 29 30 31 48 12 0 14 51 50;");
        runs.draw(false);
        CHECK.same("5 own melds stay", runs.ifKnock(50, 3), 1);
        CHECK.same("5 O", runs.ifKnock(50, 2), 10 + 1 + 2);
    }

    private static long numberAfter(long number, int steps) {
        for (int i = 0; i < steps; i++) {
            number = (number * 1103515245L + 12345L) & 0x7fffffffL;
        }
        return number;
    }

    private static void dealing() {
        WrapRuns runs = Matches.twoRuns();
        CHECK.same("6 not over", runs.deal(), -7);
        runs.draw(false);
        runs.knock(51);
        CHECK.same("6 number", runs.deal(), 1);
        CHECK.same("6 NUMBER", runs.number(), numberAfter(5, 102));
        CHECK.same("6 player", runs.match(4), 1);
        CHECK.same("6 nothing drawn", runs.match(5), 0);
        CHECK.same("6 stock", runs.match(8), 37);
        CHECK.same("6 pile", runs.match(9), 1);
        CHECK.same("6 score stays", runs.match(11), 7);
        CHECK.same("6 latest points stay", runs.match(13), 7);
        CHECK.same("6 latest winner stays", runs.match(14), 0);
        WrapRuns fresh = Texts.begun("cards " + numberAfter(5, 51) % 1000000000L + " 7 10 100;");
        CHECK.isTrue("6 NUMBER can be told", numberAfter(5, 51) < 1000000000L);
        for (int card = 0; card < 52; card++) {
            CHECK.same("6 shuffled from the order of the numbers " + card, runs.where(card), fresh.where(card));
        }
        runs = Matches.twoRuns();
        runs.set(true, 20);
        runs.draw(false);
        CHECK.same("6 7 of 20", runs.knock(51), 7);
        CHECK.same("6 round 1", runs.deal(), 1);
        runs = Matches.allLaid();
        runs.set(true, 45);
        runs.draw(false);
        runs.knock(51);
        CHECK.same("6 45 of 45", runs.match(7), 1);
        CHECK.same("6 match over", runs.deal(), -8);
        runs.set(true, 46);
        CHECK.same("6 45 of 46", runs.match(7), 0);
        CHECK.same("6 match goes on", runs.deal(), 1);
        runs.set(true, 20);
        CHECK.same("6 no match is over in a round", runs.match(7), 0);
        CHECK.same("6 and 7 comes first", runs.deal(), -7);
        WrapRuns third = Matches.emptied(Matches.TWO_RUNS);
        third.deal();
        for (int turn = 0; turn < 37; turn++) {
            third.drop(third.draw(false));
        }
        CHECK.same("6 round 2", third.deal(), 2);
        CHECK.same("6 player 0 begins it", third.match(4), 0);
    }

    private static void setting() {
        WrapRuns runs = new WrapRuns();
        CHECK.same("7 knock", runs.set(false, 0), 10);
        CHECK.same("7 knock again", runs.set(false, 20), 0);
        CHECK.same("7 target", runs.set(true, 20), 100);
        CHECK.same("7 target again", runs.set(true, 500), 20);
        CHECK.same("7 knock is", runs.match(1), 20);
        CHECK.same("7 target is", runs.match(2), 500);
        CHECK.same("7 the same", runs.set(true, 500), 500);
        CHECK.same("7 is a change all the same", runs.match(15), 5);
        CHECK.outOfRange("7 knock -1", () -> runs.set(false, -1));
        CHECK.outOfRange("7 knock 21", () -> runs.set(false, 21));
        CHECK.outOfRange("7 target 19", () -> runs.set(true, 19));
        CHECK.outOfRange("7 target 501", () -> runs.set(true, 501));
        CHECK.same("7 what throws is none", runs.match(15), 5);
        CHECK.same("7 and changes nothing", runs.match(2), 500);
    }

    private static void undoing() {
        WrapRuns runs = new WrapRuns();
        CHECK.same("8 none", runs.undo(), WrapRuns.NONE);
        for (int value = 0; value < 12; value++) {
            runs.set(false, value);
        }
        CHECK.same("8 ten at most", runs.match(15), 10);
        for (int left = 9; left >= 0; left--) {
            CHECK.same("8 left", runs.undo(), left);
            CHECK.same("8 as before", runs.match(1), left + 1);
        }
        CHECK.same("8 no more", runs.undo(), WrapRuns.NONE);
        CHECK.same("8 nothing happened", runs.match(1), 1);
        undoEach();
        undoLoad();
    }

    private static void undoEach() {
        WrapRuns runs = Matches.twoRuns();
        String begun = Matches.state(runs);
        runs.draw(true);
        String drawn = Matches.state(runs);
        runs.drop(51);
        String dropped = Matches.state(runs);
        runs.draw(false);
        runs.drop(45);
        runs.draw(true);
        String ahead = Matches.state(runs);
        runs.drop(0);
        CHECK.same("8 state of a drop", runs.undo() >= 0 ? Matches.state(runs) : "", ahead);
        runs.undo();
        runs.undo();
        runs.undo();
        CHECK.same("8 drop", Matches.state(runs), dropped);
        runs.undo();
        CHECK.same("8 draw", Matches.state(runs), drawn);
        CHECK.same("8 from the pile still", runs.drop(29), -105);
        runs.undo();
        CHECK.same("8 begun", Matches.state(runs), begun);
        runs.draw(false);
        String full = Matches.state(runs);
        runs.knock(51);
        String over = Matches.state(runs);
        runs.deal();
        Texts.put(runs, "what");
        runs.writeLaying(0);
        String report = Texts.report(runs);
        runs.undo();
        CHECK.same("8 deal", Matches.state(runs), over);
        CHECK.same("8 the text stays", runs.match(16), 4);
        CHECK.same("8 the report stays", Texts.report(runs), report);
        runs.undo();
        CHECK.same("8 knock", Matches.state(runs), full);
        CHECK.same("8 refused is no change", runs.deal() + 10 * runs.match(15), -7 + 10 * 2);
    }

    private static void undoLoad() {
        WrapRuns runs = new WrapRuns();
        runs.draw(false);
        String ahead = Matches.state(runs);
        Texts.load(runs, Matches.TWO_RUNS + "stock;drop 51;");
        CHECK.same("8 a load is one change", runs.match(15), 2);
        Texts.load(runs, "cards");
        CHECK.same("8 an error is none", runs.match(15), 2);
        CHECK.same("8 load", runs.undo(), 1);
        CHECK.same("8 load is undone", Matches.state(runs), ahead);
    }

    private static void keeping() {
        WrapRuns runs = Matches.twoRuns();
        CHECK.outOfRange("9 slot -1", () -> runs.keep(-1));
        CHECK.outOfRange("9 slot 2", () -> runs.keep(2));
        CHECK.outOfRange("10 slot -1", () -> runs.restore(-1));
        CHECK.outOfRange("10 slot 2", () -> runs.restore(2));
        CHECK.throwsA("10 nothing there", IllegalStateException.class, () -> runs.restore(0));
        String begun = Matches.state(runs);
        CHECK.same("9 keep", runs.keep(0), 0);
        CHECK.same("9 is no change", runs.match(15), 1);
        CHECK.throwsA("10 nothing in the other", IllegalStateException.class, () -> runs.restore(1));
        runs.draw(false);
        runs.knock(51);
        runs.deal();
        String second = Matches.state(runs);
        CHECK.same("9 round 1", runs.keep(1), 1);
        runs.draw(false);
        CHECK.same("9 undo leaves the slots", runs.undo(), 4);
        runs.writeLaying(1);
        String report = Texts.report(runs);
        Texts.put(runs, "text");
        CHECK.same("10 restore", runs.restore(0), 0);
        CHECK.same("10 state", Matches.state(runs), begun);
        CHECK.same("10 nothing can be undone", runs.match(15), 0);
        CHECK.same("10 undo", runs.undo(), WrapRuns.NONE);
        CHECK.same("10 the text stays", runs.match(16), 4);
        CHECK.same("10 the report stays", Texts.report(runs), report);
        CHECK.same("10 the other", runs.restore(1), 1);
        CHECK.same("10 its state", Matches.state(runs), second);
        runs.draw(false);
        CHECK.same("10 it is kept", runs.restore(1), 1);
        CHECK.same("10 its state again", Matches.state(runs), second);
        runs.keep(0);
        runs.draw(false);
        CHECK.same("9 in place of what was there", runs.restore(0), 1);
        CHECK.same("9 its state", Matches.state(runs), second);
        Texts.load(runs, Matches.ALL_LAID);
        CHECK.same("2 a load leaves the slots", runs.restore(1), 1);
    }
}
