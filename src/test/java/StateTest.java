/** Promises 13 to 19: what there is. */
public final class StateTest {
    private static final Check CHECK = new Check();

    private StateTest() {
    }

    public static void main(String[] args) {
        match();
        number();
        player();
        card();
        where();
        meldOf();
        meld();
        CHECK.end("StateTest");
    }

    private static void all(WrapRuns runs, String label, int... due) {
        for (int what = 0; what < due.length; what++) {
            CHECK.same("13 " + label + " " + what, runs.match(what), due[what]);
        }
    }

    private static void match() {
        WrapRuns runs = Texts.begun("cards 5 9 4 200;deck 1;");
        all(runs, "begun", 9, 4, 200, 0, 0, 0, 0, 0, 33, 1, runs.match(10), 0, 0, 0, -1, 1, 0);
        CHECK.same("13 pile", runs.where(runs.match(10)), 2);
        runs = Matches.twoRuns();
        runs.draw(false);
        all(runs, "drawn", 7, 10, 100, 0, 0, 1, 0, 0, 36, 1, 29, 0, 0, 0, -1, 2, 0);
        runs.drop(33);
        all(runs, "dropped", 7, 10, 100, 0, 1, 0, 0, 0, 36, 2, 33, 0, 0, 0, -1, 3, 0);
        runs.draw(true);
        all(runs, "from the pile", 7, 10, 100, 0, 1, 1, 0, 0, 36, 1, 29, 0, 0, 0, -1, 4, 0);
        runs = Matches.allLaid();
        runs.set(true, 45);
        runs.draw(false);
        Texts.put(runs, "seven..");
        runs.knock(51);
        all(runs, "over", 7, 10, 45, 0, 0, 0, 1, 1, 36, 2, 51, 45, 0, 45, 0, 4, 7);
        runs.set(true, 46);
        CHECK.same("13 the match goes on", runs.match(7), 0);
        WrapRuns any = new WrapRuns();
        for (int what : new int[] {-1, 17, Integer.MAX_VALUE, Integer.MIN_VALUE}) {
            CHECK.outOfRange("13 what " + what, () -> any.match(what));
        }
        latestRound();
        otherWins();
    }

    private static void latestRound() {
        WrapRuns runs = Matches.twoRuns();
        runs.draw(false);
        runs.knock(51);
        runs.deal();
        CHECK.same("13 points of the latest", runs.match(13), 7);
        for (int turn = 0; turn < 37; turn++) {
            runs.drop(runs.draw(false));
        }
        CHECK.same("13 nobody won the latest", runs.match(13), 0);
        CHECK.same("13 nobody", runs.match(14), WrapRuns.NONE);
        CHECK.same("13 score", runs.match(11), 7);
        CHECK.same("13 the latest mover", runs.match(4), 1);
    }

    private static void otherWins() {
        WrapRuns runs = Texts.begun("cards 5 7 10 20;deck 0 1 2 13 14 15 46 9 22 35 10 23 36 33 29 51;stock;knock 51;");
        CHECK.same("13 other one's points", runs.match(12), 10);
        CHECK.same("13 own points", runs.match(11), 0);
        CHECK.same("13 points", runs.match(13), 10);
        CHECK.same("13 winner", runs.match(14), 1);
        CHECK.same("13 10 of 20", runs.match(7), 0);
    }

    private static void number() {
        CHECK.same("14 after 51 steps from 0", Texts.begun("cards 0 7 10 100;").number(), steps(0, 51));
        CHECK.same("14 from 999999999", Texts.begun("cards 999999999 7 10 100;").number(), steps(999999999, 51));
        CHECK.same("14 of a new object", new WrapRuns().number(), steps(1, 51));
        WrapRuns runs = Matches.twoRuns();
        runs.draw(false);
        CHECK.same("14 no draw changes it", runs.number(), steps(5, 51));
        runs.knock(51);
        runs.deal();
        CHECK.same("14 a deal does", runs.number(), steps(5, 102));
        runs.undo();
        CHECK.same("14 undone", runs.number(), steps(5, 51));
    }

    private static long steps(long number, int count) {
        for (int i = 0; i < count; i++) {
            number = (number * 1103515245L + 12345L) % 2147483648L;
        }
        return number;
    }

    private static void player() {
        WrapRuns runs = new WrapRuns();
        int[] first = {7, 7, 2, 1, 1, 1, 7 + 3 + 13, 1};
        int[] second = {7, 35, 1, 4, 0, 1, 35 + 12, 0};
        for (int what = 0; what < 8; what++) {
            CHECK.same("15 player 0 " + what, runs.player(0, what), first[what]);
            CHECK.same("15 player 1 " + what, runs.player(1, what), second[what]);
        }
        runs = Matches.twoRuns();
        runs.draw(false);
        int[] drawn = {8, 18, 2, 2, 0, 2, 12 + 18, 0};
        for (int what = 0; what < 8; what++) {
            CHECK.same("15 drawn " + what, runs.player(0, what), drawn[what]);
        }
        CHECK.same("15 wraps over two", wraps(11, 12, 0, 1), 1);
        CHECK.same("15 wraps in two suits", wraps(24, 25, 13, 51, 39, 40), 2);
        CHECK.same("15 ends with the last rank", wraps(10, 11, 12), 0);
        CHECK.same("15 begins with the first rank", wraps(0, 1, 2, 36, 37, 38), 0);
        WrapRuns any = new WrapRuns();
        CHECK.outOfRange("15 player -1", () -> any.player(-1, 0));
        CHECK.outOfRange("15 player 2", () -> any.player(2, 0));
        CHECK.outOfRange("15 what -1", () -> any.player(0, -1));
        CHECK.outOfRange("15 what 8", () -> any.player(0, 8));
    }

    /** How many wrapped runs a hand of these cards has, with 5d 8h 5s 8c and so on filled up to 7. */
    private static int wraps(int... cards) {
        int[] filling = {17, 33, 43, 7};
        int[] hand = new int[7];
        for (int i = 0; i < 7; i++) {
            hand[i] = i < cards.length ? cards[i] : filling[i - cards.length];
        }
        return Matches.holding(hand).player(0, 7);
    }

    private static void card() {
        WrapRuns runs = Matches.twoRuns();
        int[] due = {0, 1, 2, 13, 14, 15, 51, -1, -1};
        for (int place = 0; place < due.length; place++) {
            CHECK.same("16 place " + place, runs.card(0, place), due[place]);
        }
        CHECK.same("16 other one", runs.card(1, 0), 3);
        CHECK.same("16 place -1", runs.card(0, -1), WrapRuns.NONE);
        CHECK.same("16 least place", runs.card(0, Integer.MIN_VALUE), WrapRuns.NONE);
        CHECK.same("16 greatest place", runs.card(0, Integer.MAX_VALUE), WrapRuns.NONE);
        runs.draw(false);
        CHECK.same("16 drawn", runs.card(0, 6), 33);
        CHECK.same("16 behind it", runs.card(0, 7), 51);
        CHECK.same("16 no more", runs.card(0, 8), WrapRuns.NONE);
        CHECK.outOfRange("16 player -1", () -> runs.card(-1, 0));
        CHECK.outOfRange("16 player 2", () -> runs.card(2, 0));
    }

    private static void where() {
        WrapRuns runs = Matches.twoRuns();
        CHECK.same("17 hand 0", runs.where(0), 0);
        CHECK.same("17 hand 0, last card", runs.where(51), 0);
        CHECK.same("17 hand 1", runs.where(3), 1);
        CHECK.same("17 pile", runs.where(29), 2);
        CHECK.same("17 stock", runs.where(33), 3);
        runs.draw(false);
        CHECK.same("17 drawn", runs.where(33), 0);
        runs.drop(51);
        CHECK.same("17 dropped", runs.where(51), 2);
        CHECK.same("17 under it", runs.where(29), 2);
        int[] count = new int[4];
        for (int card = 0; card < 52; card++) {
            count[runs.where(card)]++;
        }
        CHECK.same("17 all cards", "" + count[0] + count[1] + count[2] + count[3], "77236");
        CHECK.outOfRange("17 card -1", () -> runs.where(-1));
        CHECK.outOfRange("17 card 52", () -> runs.where(52));
    }

    private static void meldOf() {
        WrapRuns runs = new WrapRuns();
        CHECK.same("18 run", runs.meldOf(0, 12), 0);
        CHECK.same("18 the least card of it", runs.meldOf(0, 0), 0);
        CHECK.same("18 set", runs.meldOf(0, 13), 1);
        CHECK.same("18 left", runs.meldOf(0, 45), WrapRuns.NONE);
        CHECK.same("18 other one", runs.meldOf(1, 4), 0);
        CHECK.noSuchCard("18 other one's card", () -> runs.meldOf(0, 4));
        CHECK.noSuchCard("18 card of the stock", () -> runs.meldOf(1, 51));
        CHECK.noSuchCard("18 card -1", () -> runs.meldOf(0, -1));
        CHECK.noSuchCard("18 card 52", () -> runs.meldOf(0, 52));
        CHECK.outOfRange("18 player 2", () -> runs.meldOf(2, 0));
        CHECK.outOfRange("18 player comes first", () -> runs.meldOf(-1, 99));
    }

    private static void meld() {
        WrapRuns runs = new WrapRuns();
        int[][] due = {{3, 1, 12, 13}, {3, 0, 0, 3}};
        for (int meld = 0; meld < 2; meld++) {
            for (int what = 0; what < 4; what++) {
                CHECK.same("19 " + meld + " " + what, runs.meld(0, meld, what), due[meld][what]);
            }
        }
        CHECK.same("19 no meld 2", runs.meld(0, 2, 0), WrapRuns.NONE);
        CHECK.same("19 no meld -1", runs.meld(0, -1, 3), WrapRuns.NONE);
        CHECK.same("19 least number", runs.meld(0, Integer.MIN_VALUE, 1), WrapRuns.NONE);
        CHECK.same("19 greatest number", runs.meld(0, Integer.MAX_VALUE, 2), WrapRuns.NONE);
        CHECK.same("19 other one", runs.meld(1, 0, 2), 2);
        CHECK.outOfRange("19 player 2", () -> runs.meld(2, 0, 0));
        CHECK.outOfRange("19 player -1", () -> runs.meld(-1, 0, 0));
        CHECK.outOfRange("19 what -1", () -> runs.meld(0, 0, -1));
        CHECK.outOfRange("19 what 4", () -> runs.meld(0, 0, 4));
        CHECK.outOfRange("19 what 4 of no meld", () -> runs.meld(0, 5, 4));
        WrapRuns three = Matches.holding(9, 22, 35, 48, 36, 37, 38, 2);
        CHECK.same("19 set of three", three.meld(0, 0, 0), 3);
        CHECK.same("19 its rank", three.meld(0, 0, 2), 9);
        CHECK.same("19 run begins", three.meld(0, 1, 2), 35);
        CHECK.same("19 its points", three.meld(0, 1, 3), 40);
        WrapRuns four = Matches.holding(8, 21, 34, 47, 36, 37, 38, 2);
        CHECK.same("19 set of four", four.meld(0, 0, 0), 4);
        CHECK.same("19 its points", four.meld(0, 0, 3), 36);
    }
}
