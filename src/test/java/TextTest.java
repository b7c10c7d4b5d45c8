/** Promises 2, 11 and 12: the text buffer and what is read from it. */
public final class TextTest {
    private static final Check CHECK = new Check();

    private TextTest() {
    }

    public static void main(String[] args) {
        appending();
        truncating();
        loading();
        blanks();
        moves();
        misplaced();
        numbers();
        cards();
        refused();
        leastPosition();
        CHECK.end("TextTest");
    }

    private static void appending() {
        WrapRuns runs = new WrapRuns();
        // The signs of "cards 1 7 10 100;" by their numbers, and three blanks.
        CHECK.same("11 length", runs.append(0x63617264, 0x73203120, 0x37203130, 0x20313030, 0x3b202020), 20);
        CHECK.same("11 the most significant byte first", runs.load(), 7);
        for (int i = 1; i <= 25; i++) {
            CHECK.same("11 row " + i, runs.append(0x20202020, 0x0a0a0a0a, 0x20202020, 0x20202020, 0x20202020), 20 * i);
        }
        CHECK.same("11 full", runs.append(0, 0, 0, 0, 0), WrapRuns.NO_ROOM);
        CHECK.same("11 nothing is appended", runs.match(16), 500);
        runs.truncate(481);
        CHECK.same("11 not in part", runs.append(0, 0, 0, 0, 0), WrapRuns.NO_ROOM);
        CHECK.same("11 length stays", runs.match(16), 481);
        runs.truncate(480);
        CHECK.same("11 to the brim", runs.append(-1, -1, -1, -1, -1), 500);
        CHECK.same("11 byte 255", runs.load(), -30 - (8 * 480 + 1));
        CHECK.same("11 empty again", runs.append(0, 0, 0, 0, 0), 20);
        CHECK.same("11 no change of the match", runs.match(15), 1);
    }

    private static void truncating() {
        WrapRuns runs = new WrapRuns();
        CHECK.same("12 empty", runs.truncate(0), 0);
        CHECK.outOfRange("12 empty, 1", () -> runs.truncate(1));
        Texts.put(runs, "cards 1 7 10 100;x");
        CHECK.outOfRange("12 -1", () -> runs.truncate(-1));
        CHECK.outOfRange("12 19", () -> runs.truncate(19));
        CHECK.same("12 present length", runs.truncate(18), 18);
        CHECK.same("12 stays", runs.match(16), 18);
        CHECK.same("12 one less", runs.truncate(17), 17);
        CHECK.same("12 the end is cut off", runs.load(), 7);
    }

    private static void loading() {
        WrapRuns runs = new WrapRuns();
        runs.set(false, 3);
        runs.draw(false);
        String ahead = Matches.state(runs);
        CHECK.same("2 no text", runs.load(), -31);
        CHECK.same("2 error changes nothing", Matches.state(runs), ahead);
        Texts.put(runs, "cards 1 7 10 100");
        CHECK.same("2 no end", runs.load(), -30 - (8 * 16 + 1));
        CHECK.same("2 the buffer is empty", runs.match(16), 0);
        CHECK.same("2 error changes nothing", Matches.state(runs), ahead);
        runs = Matches.allLaid();
        runs.draw(false);
        runs.knock(51);
        runs.deal();
        CHECK.same("2 hands", Texts.load(runs, "cards 999999999 10 0 500;"), 10);
        int[] due = {10, 0, 500, 0, 0, 0, 0, 0, 31, 1};
        for (int what = 0; what < due.length; what++) {
            CHECK.same("2 match " + what, runs.match(what), due[what]);
        }
        CHECK.same("2 score 0", runs.match(11), 0);
        CHECK.same("2 score 1", runs.match(12), 0);
        CHECK.same("2 points", runs.match(13), 0);
        CHECK.same("2 winner", runs.match(14), WrapRuns.NONE);
        CHECK.same("2 text", runs.match(16), 0);
        anewEachTime();
        shuffled();
        decked();
    }

    /** Nothing of a text that was read, well or not, is left in the match of the next one. */
    private static void anewEachTime() {
        String due = Matches.state(Texts.begun("cards 9 8 5 60;"));
        String[] before = {"stock;knock 51;", "stock;knock 51;deal;stock;", "pile;", "pile;drop 51", "stock;knock 51;x"};
        for (String moves : before) {
            WrapRuns runs = new WrapRuns();
            Texts.load(runs, Matches.ALL_LAID + moves);
            Texts.load(runs, "cards 9 8 5 60;");
            CHECK.same("2 anew behind " + moves, Matches.state(runs), due);
        }
        WrapRuns runs = new WrapRuns();
        Texts.load(runs, "cards 5 7 10 100;deck 0 1 2 13 14 15 46 9 22 35 10 23 36 33 29 51;stock;knock 51;");
        CHECK.same("2 the other one has points", runs.match(12), 10);
        Texts.load(runs, "cards 9 8 5 60;");
        CHECK.same("2 anew behind points of the other one", Matches.state(runs), due);
    }

    private static void shuffled() {
        long number = 123456789L;
        int[] cards = new int[52];
        for (int i = 0; i < 52; i++) {
            cards[i] = i;
        }
        for (int k = 51; k >= 1; k--) {
            number = (number * 1103515245L + 12345L) % 2147483648L;
            int other = (int) (number / 65536 % (k + 1));
            int card = cards[k];
            cards[k] = cards[other];
            cards[other] = card;
        }
        WrapRuns runs = Texts.begun("cards 123456789 8 10 100;");
        for (int place = 0; place < 52; place++) {
            int due = place < 8 ? 0 : place < 16 ? 1 : place == 16 ? 2 : 3;
            CHECK.same("2 place " + place, runs.where(cards[place]), due);
        }
        CHECK.same("2 NUMBER", runs.number(), number);
        for (int place = 17; place < 52; place++) {
            CHECK.same("2 stock " + place, runs.draw(false), cards[place]);
            runs.drop(cards[place]);
        }
        CHECK.same("2 a deck takes the same NUMBER", Texts.begun("cards 123456789 7 10 100;deck 3;").number(), number);
        WrapRuns some = Texts.begun("cards 123456789 8 10 100;deck " + cards[30] + " " + cards[16] + ";");
        CHECK.same("2 told 0", some.where(cards[30]), 0);
        CHECK.same("2 told 1", some.where(cards[16]), 0);
        CHECK.same("2 the others keep their order", some.where(cards[5]), 0);
        CHECK.same("2 the seventh went on", some.where(cards[6]), 1);
        CHECK.same("2 pile", some.match(10), cards[14]);
        CHECK.same("2 stock", some.draw(false), cards[15]);
        some.drop(cards[15]);
        CHECK.same("2 stock goes on behind the told one", some.draw(false), cards[17]);
    }

    private static void decked() {
        StringBuilder text = new StringBuilder("cards 3 7 10 100;deck");
        for (int card = 51; card >= 0; card--) {
            text.append(' ').append(card);
        }
        WrapRuns runs = Texts.begun(text + ";");
        CHECK.same("2 all cards told", runs.match(10), 37);
        for (int turn = 0; turn < 37; turn++) {
            CHECK.same("2 stock as told " + turn, runs.draw(false), 36 - turn);
            runs.drop(36 - turn);
        }
        CHECK.same("2 a further one", Texts.load(runs, text + " 0;"), -30 - (8 * text.length() + 8 + 3));
        CHECK.same("2 a further one out of range", Texts.load(runs, text + " 52;"), -30 - (8 * text.length() + 8 + 2));
    }

    private static void blanks() {
        WrapRuns runs = new WrapRuns();
        CHECK.same("2 as few as can be", Texts.load(runs, "cards1 7 10 100;deck3 4;stock;drop3;"), 7);
        CHECK.same("2 played", runs.match(4), 1);
        CHECK.same("2 many", Texts.load(runs, "\n  cards\n1\n8  10 \n 100 ;  deck 3  ;  stock\n; drop  3 ; \n"), 8);
        CHECK.same("2 played again", runs.match(4), 1);
        CHECK.same("2 leading zeros", Texts.load(runs, "cards 000000001 007 010 0100;deck 00;"), 7);
        wrong("", "\tcards 1 7 10 100;", 1);
        wrong("cards 1 7 10 100;", "\r", 1);
        wrong("cards 1 7 10 100;", "\u00a0", 1);
        wrong("cards 1 7 10 100;", "\u0000", 1);
    }

    private static void moves() {
        WrapRuns runs = new WrapRuns();
        CHECK.same("2 all moves", Texts.load(runs, Matches.TWO_RUNS + "pile;drop 51;stock;drop 33;stock;knock 34;deal;"), 7);
        CHECK.same("2 round", runs.match(3), 1);
        CHECK.same("2 score", runs.match(11), 11);
        CHECK.same("2 player", runs.match(4), 1);
        CHECK.same("2 one change", runs.match(15), 1);
        Texts.load(runs, Matches.TWO_RUNS + "pile;");
        CHECK.same("2 from the pile", runs.drop(29), -105);
    }

    /** The text has its least error behind the first part. */
    private static void wrong(String before, String rest, int code) {
        WrapRuns runs = new WrapRuns();
        String ahead = Matches.state(runs);
        CHECK.same("2 " + before + "|" + rest, Texts.load(runs, before + rest), -30 - (8 * before.length() + code));
        CHECK.same("2 nothing is changed", Matches.state(runs), ahead);
        CHECK.same("2 nothing to undo", runs.match(15), 0);
        CHECK.same("2 buffer is empty", runs.match(16), 0);
    }

    private static void misplaced() {
        wrong("", "card 1 7 10 100;", 1);
        wrong("", "cardss 1 7 10 100;", 1);
        wrong("", "Cards 1 7 10 100;", 1);
        wrong("", "xards 1 7 10 100;", 1);
        wrong("", "1 7 10 100;", 1);
        wrong("cards 1 7 10 100;", "xeck 1;", 1);
        wrong("cards 1 7 10 100;", "stockz;", 1);
        wrong("cards 1 7 10 100;", "astock;", 1);
        wrong(" \n", "", 1);
        wrong("cards ", ";1 7 10 100;", 1);
        wrong("cards 1 7 10 ", ";", 1);
        wrong("cards 1 7 10 100 ", "100;", 1);
        wrong("cards 1 7 10 100", "", 1);
        wrong("cards 1 7 10 100  ", "", 1);
        wrong("cards 1 7 10 100;", ";", 1);
        wrong("cards 1 7 10 100; ", "7", 1);
        wrong("cards 1 7 10 100;", "cards", 1);
        wrong("cards 1 7 10 100;deck", ";", 1);
        wrong("cards 1 7 10 100;deck ", "deck;", 1);
        wrong("cards 1 7 10 100;deck 1 ", "stock;", 1);
        wrong("cards 1 7 10 100;deck 1", "", 1);
        wrong("cards 1 7 10 100;deck 1;", "deck 2;", 1);
        wrong("cards 1 7 10 100;deck 1;stock;", "deck 2;", 1);
        wrong("cards 1 7 10 100;", "stockpile;", 1);
        wrong("cards 1 7 10 100;stock ", "pile;", 1);
        wrong("cards 1 7 10 100;stock ", "1;", 1);
        wrong("cards 1 7 10 100;stock", "", 1);
        wrong("cards 1 7 10 100;stock;drop ", ";", 1);
        wrong("cards 1 7 10 100;stock;drop ", "", 1);
        wrong("cards 1 7 10 100;stock;knock ", "drop", 1);
        wrong("cards 1 7 10 100;deck 1;stock;drop 1 ", "1;", 1);
        wrong("cards 1 7 10 100;deck 1;stock;drop 1 ", "", 1);
        wrong("cards ", "-1 7 10 100;", 1);
    }

    private static void numbers() {
        wrong("cards ", "1000000000 7 10 100;", 1);
        wrong("cards ", "0000000001 7 10 100;", 1);
        wrong("cards 1 ", "0000000007 10 100;", 1);
        wrong("cards 1 7 10 100;deck 1 ", "0000000007;", 1);
        wrong("cards 1 7 10 100;stock;drop ", "1234567890;", 1);
        wrong("cards 1 ", "6 10 100;", 2);
        wrong("cards 1 ", "11 10 100;", 2);
        wrong("cards 1 7 ", "21 100;", 2);
        wrong("cards 1 7 10 ", "19;", 2);
        wrong("cards 1 7 10 ", "501;", 2);
        wrong("cards 1 7 10 ", "999999999;", 2);
        wrong("cards 1 7 10 100;deck ", "52;", 2);
        wrong("cards 1 7 10 100;deck 51 ", "52;", 2);
        wrong("cards 1 7 10 100;stock;drop ", "52;", 2);
        wrong("cards 1 7 10 100;stock;knock ", "52;", 2);
        WrapRuns runs = new WrapRuns();
        CHECK.same("2 least numbers", Texts.load(runs, "cards 0 7 0 20;"), 7);
        CHECK.same("2 most numbers", Texts.load(runs, "cards 999999999 10 20 500;"), 10);
    }

    private static void cards() {
        wrong("cards 1 7 10 100;deck 1 2 ", "1;", 3);
        wrong("cards 1 7 10 100;deck 0 ", "000;", 3);
        wrong("cards 1 7 10 100;deck 1 2 3 4 5 6 7 8 9 10 11 12 13 14 15 16;stock;drop ", "8;", 3);
        wrong("cards 1 7 10 100;deck 1 2 3 4 5 6 7 8 9 10 11 12 13 14 15 16;stock;knock ", "17;", 3);
        // The card is looked at ahead of what would be refused, and the one to move has it or not.
        wrong("cards 1 7 10 100;deck 1 2 3 4 5 6 7 8;drop ", "8;", 3);
        wrong("cards 1 7 10 100;deck 1 2 3 4 5 6 7 8;stock;drop 1;stock;drop ", "2;", 3);
    }

    private static void refused() {
        wrong("cards 1 7 10 100;deal", ";", 4);
        wrong("cards 1 7 10 100;stock;stock", ";", 4);
        wrong("cards 1 7 10 100;stock;pile ", ";", 4);
        wrong("cards 1 7 10 100;deck 1;drop 1 ", ";", 4);
        wrong("cards 1 7 10 100;deck 1;knock 1", ";", 4);
        wrong(Matches.TWO_RUNS + "pile;drop 29", ";", 4);
        wrong(Matches.TWO_RUNS + "pile;knock 29", ";", 4);
        wrong(Matches.TWO_RUNS.replace("7 10", "7 7") + "stock;knock 51", ";", 4);
        wrong(Matches.TWO_RUNS + "stock;knock 51;stock", ";", 4);
        wrong(Matches.TWO_RUNS + "stock;knock 51;pile", ";", 4);
        wrong(Matches.TWO_RUNS + "stock;knock 51;drop 0", ";", 4);
        wrong(Matches.TWO_RUNS + "stock;knock 51;drop ", "26;", 3);
        wrong(Matches.ALL_LAID.replace("100", "45") + "stock;knock 51;deal", ";", 4);
        WrapRuns runs = new WrapRuns();
        CHECK.same("2 46 of 45", Texts.load(runs, Matches.ALL_LAID.replace("100", "46") + "stock;knock 51;deal;"), 7);
    }

    private static void leastPosition() {
        wrong("cards 1 ", "6 21 19;deck 52;", 2);
        wrong("cards 1 7 10 100;deck 1 ", "1 x", 3);
        wrong("cards 1 7 10 100;deal", "; x", 4);
        wrong("cards 1 7 10 100;deal ", "x;", 1);
        wrong("cards 1 7 10 100;deck 1 2 ", "52 2 2;", 2);
    }
}
