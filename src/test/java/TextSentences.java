/** The sentences of the terms about texts. */
final class TextSentences {
    private static final String HEAD = "cards 1 7 10 100;";

    private TextSentences() {
    }

    static void test(Sentences all) {
        buffer(all);
        grammar(all);
        tokens(all);
        blanks(all);
        decks(all);
        positions(all);
        firstError(all);
        secondAndThirdError(all);
        fourthError(all);
    }

    /** The text has its least error behind the first part, and nothing comes of it. */
    private static void wrong(Check c, String ahead, String behind, int code) {
        WrapRuns runs = new WrapRuns();
        String before = Matches.all(runs);
        c.same(ahead + "|" + behind, Texts.load(runs, ahead + behind), -30 - (8 * ahead.length() + code));
        c.same("state behind " + ahead + "|" + behind, Matches.all(runs), before);
    }

    private static void right(Check c, String text) {
        c.same(text, Texts.load(new WrapRuns(), text), 7);
    }

    private static void buffer(Sentences all) {
        all.test("Terms 4", "The text buffer has at most 500 bytes.", c -> {
            WrapRuns runs = new WrapRuns();
            String text = " ".repeat(499 - "cards 1 7 10 100".length()) + "cards 1 7 10 100";
            Texts.put(runs, text);
            c.same("499 bytes", runs.match(16), 499);
            c.same("too early", runs.load(), -30 - (8 * 499 + 1));
            Texts.put(runs, text + ";");
            c.same("500 bytes", runs.match(16), 500);
            c.same("no more", runs.append(0, 0, 0, 0, 0), WrapRuns.NO_ROOM);
            c.same("the last byte is read", runs.load(), 7);
            Texts.put(runs, text + "8");
            c.same("the last byte belongs to the number", runs.load(), -30 - (8 * 496 + 2));
            Texts.put(runs, " " + text);
            c.same("too early at 500", runs.load(), -30 - (8 * 500 + 1));
        });
    }

    private static void grammar(Sentences all) {
        all.test("Terms 4", "text = \"cards\" NUMBER HANDS KNOCK TARGET \";\"", c -> {
            WrapRuns runs = Texts.begun("cards 3 8 9 200;");
            c.same("HANDS", runs.match(0), 8);
            c.same("KNOCK", runs.match(1), 9);
            c.same("TARGET", runs.match(2), 200);
            wrong(c, "", "", 1);
            wrong(c, "", "xards 1 7 10 100;", 1);
            wrong(c, "", "cardx 1 7 10 100;", 1);
            wrong(c, "", "deck 1;", 1);
            wrong(c, "", "stock;", 1);
            wrong(c, "", ";", 1);
            wrong(c, "cards", "", 1);
            wrong(c, "cards 1 7 10", "", 1);
            wrong(c, "cards 1 7 10", ";", 1);
            wrong(c, "cards 1 7 10 100", "", 1);
            wrong(c, "cards 1 7 10 100 ", "100;", 1);
            wrong(c, "cards 1 7 10 100 ", "deck 1;", 1);
            wrong(c, HEAD, ";", 1);
            wrong(c, HEAD, "cards 1 7 10 100;", 1);
        });
        all.test("Terms 4", "[ \"deck\" C { C } \";\" ]", c -> {
            right(c, HEAD);
            right(c, HEAD + "deck 51;");
            right(c, HEAD + "deck 51 0;");
            StringBuilder full = new StringBuilder(HEAD + "deck");
            for (int card = 51; card >= 0; card--) {
                full.append(' ').append(card);
            }
            WrapRuns runs = Texts.begun(full + ";");
            c.same("all cards", runs.draw(false), 36);
            wrong(c, full + " ", "0;", 3);
            wrong(c, full.toString(), "", 1);
            wrong(c, HEAD + "deck", "", 1);
            wrong(c, HEAD + "deck", ";", 1);
            wrong(c, HEAD, "xeck 1;", 1);
            wrong(c, HEAD, "decx 1;", 1);
            wrong(c, HEAD + "deck 1 ", "stock;", 1);
            wrong(c, HEAD + "deck 1", "", 1);
            wrong(c, HEAD + "deck 1;", "deck 2;", 1);
            wrong(c, HEAD + "stock;", "deck 2;", 1);
        });
        all.test("Terms 4", "{ move \";\" }", c -> {
            right(c, HEAD);
            right(c, HEAD + "stock;");
            right(c, HEAD + "deck 1;stock;drop 1;");
            wrong(c, HEAD + "stock", "", 1);
            wrong(c, HEAD + "stock ", "stock;", 1);
            wrong(c, HEAD + "stock;", ";", 1);
            wrong(c, HEAD + "stock;", "1;", 1);
        });
        all.test("Terms 4", "move = \"stock\" | \"pile\" | \"drop\" C | \"knock\" C | \"deal\"", c -> {
            WrapRuns runs = Texts.begun(Matches.TWO_RUNS + "pile;drop 51;stock;drop 33;stock;knock 34;deal;");
            c.same("round", runs.match(3), 1);
            c.same("score", runs.match(11), 11);
            c.same("drawn from the stock", Texts.begun(Matches.TWO_RUNS + "stock;").where(33), 0);
            c.same("drawn from the pile", Texts.begun(Matches.TWO_RUNS + "pile;").where(29), 0);
            wrong(c, Matches.TWO_RUNS + "stock ", "33;", 1);
            wrong(c, Matches.TWO_RUNS + "stock;drop", ";", 1);
            wrong(c, Matches.TWO_RUNS + "stock;drop 51 ", "51;", 1);
            wrong(c, Matches.TWO_RUNS + "stock;drop", "", 1);
            wrong(c, Matches.TWO_RUNS + "stock;knock", ";", 1);
            wrong(c, Matches.TWO_RUNS + "stock;knock 51 ", "33;", 1);
            wrong(c, Matches.TWO_RUNS + "stock;knock 51;deal ", "1;", 1);
            wrong(c, Matches.TWO_RUNS, "undo;", 1);
            for (String word : new String[] {"xtock", "xile", "xrop 51", "xnock 51", "xeal", "stocx", "pilx", "drox 51"}) {
                wrong(c, Matches.TWO_RUNS, word + ";", 1);
            }
        });
    }

    private static void tokens(Sentences all) {
        all.test("Terms 4", "A token is a word (a run of the letters a to z)", c -> {
            wrong(c, "", "CARDS 1 7 10 100;", 1);
            wrong(c, "", "Cards 1 7 10 100;", 1);
            wrong(c, "cards 1 7 10 100;stock", "Z;", 1);
            // The bytes beside a and z.
            wrong(c, "cards 1 7 10 100;stock", "`;", 1);
            wrong(c, "cards 1 7 10 100;stock", "{;", 1);
        });
        all.test("Terms 4", "a number (a run of 1 to 9 digits)", c -> {
            right(c, "cards 000000001 000000007 000000010 000000100;deck 000000051;");
            wrong(c, "cards ", "0000000001 7 10 100;", 1);
            wrong(c, "cards 1 ", "0000000007 10 100;", 1);
            wrong(c, "cards 1 7 10 100;deck ", "0000000051;", 1);
            wrong(c, "cards ", "-1 7 10 100;", 1);
            wrong(c, "cards ", "+1 7 10 100;", 1);
            // The bytes beside 0 and 9.
            wrong(c, "cards 1", "/ 7 10 100;", 1);
            wrong(c, "cards 1", ": 7 10 100;", 1);
        });
        all.test("Terms 4", "or a semicolon", c -> {
            wrong(c, "cards 1 7 10 100", ",", 1);
            wrong(c, "cards 1 7 10 100", ":", 1);
            wrong(c, "cards 1 7 10 100", "<", 1);
        });
        all.test("Terms 4", "as long as possible.", c -> {
            wrong(c, "", "cardss 1 7 10 100;", 1);
            wrong(c, "", "card s 1 7 10 100;", 1);
            wrong(c, HEAD, "stockpile;", 1);
            wrong(c, HEAD, "stocks;", 1);
            wrong(c, HEAD, "stoc;", 1);
            // Ten digits are not nine and one.
            wrong(c, "cards ", "1234567890 7 10 100;", 1);
            wrong(c, "cards 1 7 10 ", "1000;", 2);
            c.same("two digits are one number", Texts.begun("cards 1 10 10 100;").match(0), 10);
        });
    }

    private static void blanks(Sentences all) {
        all.test("Terms 4", "Blanks (byte 32) and line feeds (byte 10) may stand before, between and behind tokens", c -> {
            right(c, "\n \n cards \n 1\n7  10\n\n100 \n;\n \ndeck 3\n4 \n; \nstock \n; drop\n3 ;\n\n ");
            right(c, " cards 1 7 10 100 ; ");
            right(c, "\ncards\n1\n7\n10\n100\n;\n");
            for (char sign : new char[] {0, 9, 11, 12, 13, 31, 33, 127, 128, 160, 255}) {
                wrong(c, "", sign + HEAD, 1);
                wrong(c, "cards 1 7 10 100", sign + ";", 1);
                wrong(c, HEAD, "" + sign, 1);
            }
            wrong(c, "", "car ds 1 7 10 100;", 1);
            wrong(c, "cards 1 7 1 ", "0 100;", 2);
        });
        all.test("Terms 4", "they are needed only between two words and between two numbers.", c -> {
            WrapRuns runs = new WrapRuns();
            c.same("as few as can be", Texts.load(runs, "cards1 7 10 100;deck3 4;stock;drop3;pile;"), 7);
            c.same("drawn from the pile", runs.where(3), 1);
            wrong(c, "", "cardsdeck1;", 1);
            wrong(c, "cards ", "171010000000;", 1);
            wrong(c, "cards 1 ", "710 100;", 2);
        });
    }

    private static void decks(Sentences all) {
        all.test("Terms 4", "\"deck\" tells cards that come ahead of all others, in this order", c -> {
            WrapRuns runs = Texts.begun("cards 1 7 10 100;deck 40 51 50 49 48 47 46 45 44 43 42 41 39 38 0 37;");
            for (int card : new int[] {40, 51, 50, 49, 48, 47, 46}) {
                c.same("hand 0: " + card, runs.where(card), 0);
            }
            for (int card : new int[] {45, 44, 43, 42, 41, 39, 38}) {
                c.same("hand 1: " + card, runs.where(card), 1);
            }
            c.same("pile", runs.match(10), 0);
            c.same("stock", runs.draw(false), 37);
            c.same("one card", Texts.begun("cards 1 7 10 100;deck 22;").where(22), 0);
        });
        all.test("Terms 4", "in the first deal", c -> {
            // Behind it no card comes ahead: as in a match whose text told none.
            WrapRuns told = Texts.begun("cards 1 10 10 100;deck 51 50 49 48 47 46;");
            WrapRuns plain = Texts.begun("cards 1 10 10 100;");
            Matches.empty(told);
            Matches.empty(plain);
            told.deal();
            plain.deal();
            for (int card = 0; card < 52; card++) {
                c.same("card " + card, told.where(card), plain.where(card));
            }
        });
        all.test("Terms 4", "(behind the shuffling, in which the others keep their order).", c -> {
            WrapRuns plain = Texts.begun("cards 9 10 10 100;");
            int[] stock = new int[31];
            for (int place = 0; place < 31; place++) {
                stock[place] = plain.draw(false);
                plain.drop(stock[place]);
            }
            // Two cards of the stock come ahead: the two ahead of it move on, and the others stay in their row.
            WrapRuns told = Texts.begun("cards 9 10 10 100;deck " + stock[20] + " " + stock[3] + ";");
            c.same("NUMBER", told.number(), plain.number());
            c.same("told card", told.where(stock[20]), 0);
            c.same("other told card", told.where(stock[3]), 0);
            told.draw(false);
            told.drop(told.card(0, 0));
            told.draw(false);
            told.drop(told.card(1, 0));
            for (int place = 0; place < 31; place++) {
                if (place != 3 && place != 20) {
                    c.same("stock " + place, told.draw(false), stock[place]);
                    told.drop(stock[place]);
                }
            }
        });
        all.test("Terms 4", "NUMBER is 0 to 999999999, C a card.", c -> {
            right(c, "cards 0 7 10 100;");
            right(c, "cards 999999999 7 10 100;");
            wrong(c, "cards ", "1000000000 7 10 100;", 1);
            right(c, HEAD + "deck 0;");
            right(c, HEAD + "deck 51;");
            wrong(c, HEAD + "deck ", "52;", 2);
            wrong(c, HEAD + "deck 51 ", "52;", 2);
            wrong(c, HEAD + "stock;drop ", "52;", 2);
            wrong(c, HEAD + "stock;knock ", "52;", 2);
            right(c, HEAD + "deck 0;stock;drop 0;");
            right(c, HEAD + "deck 51;stock;drop 51;");
        });
    }

    private static void positions(Sentences all) {
        all.test("Terms 4", "The error with the least position counts", c -> {
            wrong(c, "cards 1 ", "6 21 19 deck 52 52; x", 2);
            wrong(c, "cards 1 7 ", "21 19;", 2);
            wrong(c, HEAD + "deck 1 ", "1 52 x", 3);
            wrong(c, HEAD + "deck 1 ", "52 1 x", 2);
            wrong(c, HEAD + "deal", "; x", 4);
            wrong(c, HEAD + "deal ", "x;", 1);
            wrong(c, HEAD + "stock;drop ", "52 x", 2);
            wrong(c, HEAD + "deck 1 2 3 4 5 6 7 8;drop ", "8 x", 3);
        });
        all.test("Terms 4", "of several at one position the one with the least code", c -> {
            // Ten digits are also out of the range; 52 is also a card that nobody has.
            wrong(c, "cards 1 7 10 ", "1234567890;", 1);
            wrong(c, HEAD + "deck ", "9999999999;", 1);
            wrong(c, HEAD + "stock;drop ", "52;", 2);
            wrong(c, HEAD + "stock;knock ", "99;", 2);
            // A semicolon that can't stand there also ends a drop that would be refused.
            wrong(c, HEAD + "drop ", ";", 1);
        });
    }

    private static void firstError(Sentences all) {
        all.test("Terms 4", "1 a token that cannot stand there", c -> {
            wrong(c, "", "1;", 1);
            wrong(c, "cards ", "cards;", 1);
            wrong(c, "cards 1 7 10 100 ", "1;", 1);
            wrong(c, HEAD + "deck 1 ", "deck;", 1);
            wrong(c, HEAD + "deck 1 ;", ";", 1);
            wrong(c, HEAD, "17;", 1);
            wrong(c, HEAD, "unknown;", 1);
            wrong(c, HEAD + "stock ", "drop 1;", 1);
            wrong(c, HEAD + "stock;drop ", "stock;", 1);
        });
        all.test("Terms 4", "a run of more than 9 digits", c -> {
            wrong(c, "cards ", "0000000001 7 10 100;", 1);
            wrong(c, "cards 1 7 10 ", "0000000100;", 1);
            wrong(c, HEAD + "deck 1 ", "0000000002;", 1);
            wrong(c, HEAD + "stock;knock ", "00000000000000000001;", 1);
            wrong(c, HEAD, "1234567890;", 1);
        });
        all.test("Terms 4", "a byte that begins no token (position: its first byte)", c -> {
            wrong(c, "", "?", 1);
            wrong(c, " \n ", "?cards", 1);
            wrong(c, "cards", "? 1 7 10 100;", 1);
            wrong(c, "cards 1", ".5 7 10 100;", 1);
            wrong(c, HEAD + "stock", "\u00e9;", 1);
            wrong(c, HEAD + "stock; ", "\u00ff", 1);
            // The first byte of a token, not the one that spoils it.
            wrong(c, "cards 1 ", "12345678901 10 100;", 1);
            wrong(c, HEAD + "  ", "stockz;", 1);
        });
        all.test("Terms 4", "or a text that ends too early (position: its length)", c -> {
            wrong(c, "", "", 1);
            wrong(c, "   ", "", 1);
            wrong(c, "\n", "", 1);
            wrong(c, "cards 1 7 10 100", "", 1);
            wrong(c, "cards 1 7 10 100 \n ", "", 1);
            wrong(c, HEAD + "deck ", "", 1);
            wrong(c, HEAD + "deck 1  ", "", 1);
            wrong(c, HEAD + "deal", "", 1);
            wrong(c, HEAD + "stock;drop ", "", 1);
        });
    }

    private static void secondAndThirdError(Sentences all) {
        all.test("Terms 4", "2 a number out of its range", c -> {
            wrong(c, "cards 1 ", "6 10 100;", 2);
            wrong(c, "cards 1 ", "11 10 100;", 2);
            wrong(c, "cards 1 7 ", "21 100;", 2);
            wrong(c, "cards 1 7 10 ", "19;", 2);
            wrong(c, "cards 1 7 10 ", "501;", 2);
            wrong(c, HEAD + "deck ", "52;", 2);
            wrong(c, HEAD + "deck 1 2 ", "999999999;", 2);
            wrong(c, HEAD + "stock;drop ", "52;", 2);
            wrong(c, HEAD + "stock;knock ", "52;", 2);
            right(c, "cards 1 7 0 20;");
            right(c, "cards 1 7 20 500;");
        });
        all.test("Terms 4", "3 a C that \"deck\" told already", c -> {
            wrong(c, HEAD + "deck 0 ", "0;", 3);
            wrong(c, HEAD + "deck 51 ", "51;", 3);
            wrong(c, HEAD + "deck 1 2 3 ", "1;", 3);
            wrong(c, HEAD + "deck 1 2 3 ", "003;", 3);
        });
        all.test("Terms 4", "and the C of a \"drop\" or \"knock\" that the player to move does not have", c -> {
            // The other one's card, one of the pile, one of the stock, and one that was dropped.
            wrong(c, Matches.TWO_RUNS + "stock;drop ", "26;", 3);
            wrong(c, Matches.TWO_RUNS + "stock;knock ", "26;", 3);
            wrong(c, Matches.TWO_RUNS + "stock;drop ", "29;", 3);
            wrong(c, Matches.TWO_RUNS + "stock;knock ", "34;", 3);
            wrong(c, Matches.TWO_RUNS + "stock;drop 51;stock;drop ", "51;", 3);
            wrong(c, Matches.TWO_RUNS + "stock;drop 51;stock;drop ", "0;", 3);
            right(c, Matches.TWO_RUNS + "stock;drop 51;stock;drop 26;");
            // Ahead of a refusal, whose semicolon stands behind: no card drawn, and the round over.
            wrong(c, Matches.TWO_RUNS + "drop ", "26;", 3);
            wrong(c, Matches.TWO_RUNS + "stock;knock 51;knock ", "51;", 3);
        });
    }

    private static void fourthError(Sentences all) {
        all.test("Terms 4", "4 the semicolon behind a move that would be refused.", c -> {
            String over = Matches.TWO_RUNS + "stock;knock 51;";
            wrong(c, over + "stock", ";", 4);
            wrong(c, over + "pile", ";", 4);
            wrong(c, over + "drop 33", ";", 4);
            wrong(c, over + "knock 33", ";", 4);
            wrong(c, Matches.TWO_RUNS + "stock;stock", ";", 4);
            wrong(c, Matches.TWO_RUNS + "stock;pile  ", ";", 4);
            wrong(c, Matches.TWO_RUNS + "drop 51", ";", 4);
            wrong(c, Matches.TWO_RUNS + "knock 51\n", ";", 4);
            wrong(c, Matches.TWO_RUNS + "pile;drop 29", ";", 4);
            wrong(c, Matches.TWO_RUNS + "pile;knock 29", ";", 4);
            wrong(c, Matches.TWO_RUNS.replace("7 10", "7 7") + "stock;knock 51", ";", 4);
            right(c, Matches.TWO_RUNS.replace("7 10", "7 8") + "stock;knock 51;");
            wrong(c, Matches.TWO_RUNS + "deal", ";", 4);
            wrong(c, Matches.ALL_LAID.replace("10 100", "10 45") + "stock;knock 51;deal", ";", 4);
            right(c, Matches.ALL_LAID.replace("10 100", "10 46") + "stock;knock 51;deal;");
        });
    }
}
