import java.math.BigInteger;

/** The sentences of the terms about the deal. */
final class DealSentences {
    private static final BigInteger MODULUS = BigInteger.valueOf(2147483648L);

    private DealSentences() {
    }

    static void test(Sentences all) {
        settings(all);
        shuffling(all);
        dealing(all);
        rounds(all);
    }

    /** The number and the order of the cards behind one shuffling more, by numbers that can't be too great. */
    private static final class Shuffled {
        private long number;
        private final int[] cards = new int[52];

        Shuffled(long number) {
            this.number = number;
            again();
        }

        void again() {
            for (int place = 0; place < 52; place++) {
                cards[place] = place;
            }
            for (int k = 51; k >= 1; k--) {
                number = BigInteger.valueOf(number).multiply(BigInteger.valueOf(1103515245))
                        .add(BigInteger.valueOf(12345)).mod(MODULUS).longValueExact();
                int place = (int) (number / 65536 % (k + 1));
                int card = cards[k];
                cards[k] = cards[place];
                cards[place] = card;
            }
        }
    }

    private static int begin(String settings) {
        return Texts.load(new WrapRuns(), "cards 1 " + settings + ";");
    }

    private static void settings(Sentences all) {
        all.test("Terms 2", "The settings are HANDS (7 to 10 cards)", c -> {
            c.same("6", begin("6 10 100"), -30 - (8 * 8 + 2));
            for (int hands = 7; hands <= 10; hands++) {
                c.same("may be " + hands, begin(hands + " 10 100"), hands);
            }
            c.same("11", begin("11 10 100"), -30 - (8 * 8 + 2));
            c.same("0", begin("0 10 100"), -30 - (8 * 8 + 2));
        });
        all.test("Terms 2", "KNOCK (0 to 20)", c -> {
            c.same("0", Texts.begun("cards 1 7 0 100;").match(1), 0);
            c.same("20", Texts.begun("cards 1 7 20 100;").match(1), 20);
            c.same("21", begin("7 21 100"), -30 - (8 * 10 + 2));
            WrapRuns runs = new WrapRuns();
            c.outOfRange("set -1", () -> runs.set(false, -1));
            c.same("set 0", runs.set(false, 0), 10);
            c.same("set 20", runs.set(false, 20), 0);
            c.outOfRange("set 21", () -> runs.set(false, 21));
        });
        all.test("Terms 2", "TARGET (20 to 500).", c -> {
            c.same("19", begin("7 10 19"), -30 - (8 * 13 + 2));
            c.same("20", Texts.begun("cards 1 7 10 20;").match(2), 20);
            c.same("500", Texts.begun("cards 1 7 10 500;").match(2), 500);
            c.same("501", begin("7 10 501"), -30 - (8 * 13 + 2));
            WrapRuns runs = new WrapRuns();
            c.outOfRange("set 19", () -> runs.set(true, 19));
            c.same("set 20", runs.set(true, 20), 100);
            c.same("set 500", runs.set(true, 500), 20);
            c.outOfRange("set 501", () -> runs.set(true, 501));
        });
    }

    private static void shuffling(Sentences all) {
        all.test("Terms 2", "There is a NUMBER for shuffling (0 to 2147483647).", c -> {
            long greatest = 0;
            for (long first : new long[] {0, 1, 999999998, 999999999}) {
                WrapRuns runs = Texts.begun("cards " + first + " 10 10 500;");
                Shuffled due = new Shuffled(first);
                c.same("from " + first, runs.number(), due.number);
                for (int round = 1; round <= 4; round++) {
                    Matches.empty(runs);
                    runs.deal();
                    due.again();
                    c.same("from " + first + " round " + round, runs.number(), due.number);
                    greatest = Math.max(greatest, runs.number());
                }
            }
            c.isTrue("some are above a half of the greatest", greatest > 1073741824 && greatest <= 2147483647);
        });
        all.test("Terms 2", "To shuffle: the cards lie in the order of their numbers at first; for k from 51 down to 1"
                + " the NUMBER becomes (NUMBER * 1103515245 + 12345) modulo 2147483648, and the cards at the places k"
                + " and (NUMBER / 65536) modulo (k + 1) are swapped.", c -> {
            for (long first : new long[] {0, 1, 5, 123456789, 999999999}) {
                WrapRuns runs = Texts.begun("cards " + first + " 7 10 100;");
                Shuffled due = new Shuffled(first);
                for (int place = 15; place < 52; place++) {
                    c.same("from " + first + " place " + place, runs.draw(false), due.cards[place]);
                    runs.drop(due.cards[place]);
                }
                c.same("steps from " + first, runs.number(), due.number);
            }
        });
    }

    private static void places(Check c, String hands, int... due) {
        Shuffled shuffled = new Shuffled(77);
        WrapRuns runs = Texts.begun("cards 77 " + hands + " 10 100;");
        for (int place = 0; place < 52; place++) {
            int lying = place < due[0] ? 0 : place < due[1] ? 1 : place < due[2] ? 2 : 3;
            c.same(hands + " cards, place " + place, runs.where(shuffled.cards[place]), lying);
        }
    }

    private static void dealing(Sentences all) {
        all.test("Terms 2", "Then the player 0 gets the cards at the places 0 to HANDS - 1, the player 1 the next HANDS"
                + " cards, the next one is the PILE, and the others are the STOCK", c -> {
            places(c, "7", 7, 14, 15);
            places(c, "8", 8, 16, 17);
            places(c, "9", 9, 18, 19);
            places(c, "10", 10, 20, 21);
        });
        all.test("Terms 2", "the one with the least place on top.", c -> {
            WrapRuns runs = Matches.twoRuns();
            c.same("first", runs.draw(false), 33);
            runs.drop(33);
            c.same("second", runs.draw(false), 34);
            runs.drop(34);
            c.same("third", runs.draw(false), 42);
            WrapRuns ten = Texts.begun("cards 3 10 10 100;");
            int[] cards = new Shuffled(3).cards;
            for (int place = 21; place < 52; place++) {
                c.same("place " + place, ten.draw(false), cards[place]);
                ten.drop(cards[place]);
            }
        });
    }

    private static void rounds(Sentences all) {
        all.test("Terms 2", "ROUNDS are numbered from 0.", c -> {
            WrapRuns runs = Texts.begun("cards 1 10 10 100;");
            c.same("first", runs.match(3), 0);
            Matches.empty(runs);
            c.same("first is over", runs.match(3), 0);
            c.same("dealt", runs.deal(), 1);
            c.same("second", runs.match(3), 1);
        });
        all.test("Terms 2", "In the round r the player r modulo 2 begins.", c -> {
            WrapRuns runs = Texts.begun("cards 1 10 10 100;");
            for (int round = 0; round <= 3; round++) {
                c.same("round", runs.match(3), round);
                c.same("begins " + round, runs.match(4), round % 2);
                int held = runs.player(round % 2, 0);
                runs.draw(false);
                c.same("draws in " + round, runs.player(round % 2, 0), held + 1);
                runs.undo();
                Matches.empty(runs);
                runs.deal();
            }
        });
    }
}
