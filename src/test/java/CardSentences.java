/** The sentences of the terms about cards and melds. */
final class CardSentences {
    private CardSentences() {
    }

    static void test(Sentences all) {
        calls(all);
        cards(all);
        melds(all);
    }

    private static long bits(int... cards) {
        long bits = 0;
        for (int card : cards) {
            bits |= 1L << card;
        }
        return bits;
    }

    private static void calls(Sentences all) {
        all.test("What it is", "An object is used for at most 512 calls after it has been made", c -> {
            WrapRuns runs = new WrapRuns();
            int before = 10;
            for (int call = 1; call < 512; call++) {
                int value = call % 21;
                c.same("call " + call, runs.set(false, value), before);
                before = value;
            }
            c.same("call 512", runs.undo(), 9);
        });
        all.test("Terms", "A card lies in one meld.", c -> {
            // Ac could lie in the set of aces and in the run from Ac on.
            WrapRuns runs = Matches.holding(0, 13, 26, 1, 2, 31, 48);
            c.same("melds", runs.player(0, 2), 1);
            c.same("cards of it", runs.meld(0, 0, 0), 3);
            c.same("cards that are left", runs.player(0, 3), 4);
        });
        all.test("Terms", "It is told how a hand is laid out best, which card is best dropped, whether the pile helps,"
                + " which cards would help, and what a knock would bring.", c -> {
            WrapRuns runs = Matches.twoRuns();
            c.same("laid out", Texts.laying(runs, 0), "Ac,2c,3c Ad,2d,3d -Ks");
            c.same("the pile helps", runs.restByPile(), 4);
            c.same("cards that help", runs.helping(0), 32);
            runs.draw(true);
            c.same("dropped", runs.bestDrop(), 51);
            c.same("a knock brings", runs.ifKnock(51, 2) - runs.ifKnock(51, 1), 11);
        });
    }

    private static void cards(Sentences all) {
        all.test("Terms 1", "There are 52 cards", c -> {
            WrapRuns runs = new WrapRuns();
            int[] lying = new int[4];
            for (int card = 0; card < 52; card++) {
                lying[runs.where(card)]++;
            }
            c.same("hand 0", lying[0], 7);
            c.same("hand 1", lying[1], 7);
            c.same("pile", lying[2], 1);
            c.same("stock", lying[3], 37);
            c.outOfRange("card -1", () -> runs.where(-1));
            c.outOfRange("card 52", () -> runs.where(52));
        });
        all.test("Terms 1", "the card c has the SUIT c / 13 (0 to 3) and the RANK c modulo 13 (0 to 12).", c -> {
            String ranks = "A23456789TJQK";
            String suits = "cdhs";
            for (int first = 0; first < 13; first++) {
                // All four cards of two ranks: the edges of each suit come with the ranks 0 and 12.
                int second = (first + 1) % 13;
                int low = Math.min(first, second);
                int high = Math.max(first, second);
                WrapRuns runs = Matches.holding(low, low + 13, low + 26, low + 39, high, high + 13, high + 26, high + 39);
                StringBuilder due = new StringBuilder();
                for (int rank : new int[] {low, high}) {
                    for (int suit = 0; suit < 4; suit++) {
                        due.append(suit > 0 ? "," : rank == high ? " " : "");
                        due.append(ranks.charAt(rank)).append(suits.charAt(suit));
                    }
                }
                c.same("ranks " + low + " and " + high, Texts.laying(runs, 0), due.toString());
            }
        });
        all.test("Terms 1", "Its POINTS are its RANK plus 1, but 10 at most.", c -> {
            int[] due = {1, 2, 3, 4, 5, 6, 7, 8, 9, 10, 10, 10, 10};
            // Hands without any meld, so that each card is told by what is left without it.
            int[][] hands = {{0, 14, 28, 42, 4, 18, 32}, {46, 8, 22, 36, 50, 12, 30}};
            for (int[] hand : hands) {
                WrapRuns runs = Matches.holding(hand);
                c.same("melds", runs.player(0, 2), 0);
                int sum = 0;
                for (int card : hand) {
                    c.same("card " + card, runs.player(0, 1) - runs.restWithout(card), due[card % 13]);
                    sum += due[card % 13];
                }
                c.same("all cards", runs.player(0, 6), sum);
            }
        });
    }

    private static void melds(Sentences all) {
        WrapRuns runs = new WrapRuns();
        all.test("Terms 1", "A SET is 3 or 4 cards of one RANK.", c -> {
            for (int rank = 0; rank < 13; rank++) {
                for (int suits = 0; suits < 16; suits++) {
                    long cards = 0;
                    for (int suit = 0; suit < 4; suit++) {
                        cards |= (long) (suits >> suit & 1) << rank + 13 * suit;
                    }
                    int due = Integer.bitCount(suits) >= 3 ? 1 : 0;
                    c.same("rank " + rank + " suits " + suits, runs.kind(cards), due);
                }
            }
            c.same("two of one rank and one of the next", runs.kind(bits(4, 17, 31)), 0);
            c.same("three of one rank and one of the next", runs.kind(bits(4, 17, 30, 44)), 0);
            c.same("four of one rank and another", runs.kind(bits(4, 17, 30, 43, 5)), 0);
            c.same("Kc and two aces", runs.kind(bits(12, 13, 26)), 0);
        });
        all.test("Terms 1", "A RUN is 3 to 13 cards", c -> {
            c.same("no card", runs.kind(0), 0);
            for (int suit = 0; suit < 4; suit++) {
                for (int first = 0; first < 13; first++) {
                    long cards = 0;
                    for (int size = 1; size <= 13; size++) {
                        cards |= 1L << 13 * suit + (first + size - 1) % 13;
                        c.same("suit " + suit + " from " + first + " size " + size, runs.kind(cards), size < 3 ? 0 : 2);
                    }
                }
            }
        });
        all.test("Terms 1", "of one SUIT", c -> {
            c.same("Kc Ad 2d", runs.kind(bits(12, 13, 14)), 0);
            c.same("Qc Kc Ad", runs.kind(bits(11, 12, 13)), 0);
            c.same("Qc Kc Ac and Ad", runs.kind(bits(11, 12, 0, 13)), 0);
            c.same("Ks Ac 2c", runs.kind(bits(51, 0, 1)), 0);
            c.same("Ac 2c 3d", runs.kind(bits(0, 1, 15)), 0);
            c.same("all of a suit and one more", runs.kind(8191L << 26 | 1L << 39), 0);
        });
        all.test("Terms 1", "whose RANKS follow one another", c -> {
            c.same("Ac 2c 4c", runs.kind(bits(0, 1, 3)), 0);
            c.same("Ac 3c 5c", runs.kind(bits(0, 2, 4)), 0);
            c.same("2c 3c 4c and 6c", runs.kind(bits(1, 2, 3, 5)), 0);
            c.same("2c 3c 4c and 6c 7c 8c", runs.kind(bits(1, 2, 3, 5, 6, 7)), 0);
            c.same("12 cards but one in the midst", runs.kind(8191L & ~bits(5, 9)), 0);
            c.same("12 cards around the one that lacks", runs.kind(8191L & ~bits(5)), 2);
        });
        all.test("Terms 1", "in a circle (0 follows 12).", c -> {
            for (int suit = 0; suit < 4; suit++) {
                int first = 13 * suit;
                c.same("K A 2 of suit " + suit, runs.kind(bits(first + 12, first, first + 1)), 2);
                c.same("Q K A of suit " + suit, runs.kind(bits(first + 11, first + 12, first)), 2);
                c.same("J K A of suit " + suit, runs.kind(bits(first + 10, first + 12, first)), 0);
                c.same("K A 3 of suit " + suit, runs.kind(bits(first + 12, first, first + 2)), 0);
                c.same("K 2 3 of suit " + suit, runs.kind(bits(first + 12, first + 1, first + 2)), 0);
            }
            c.same("laid out", Texts.laying(Matches.holding(50, 51, 39, 1, 17, 33, 7), 0), "Qs,Ks,As -2c,8c,5d,8h");
        });
        all.test("Terms 1", "A MELD is a SET or a RUN.", c -> {
            c.same("a set", runs.kind(bits(0, 13, 26)), 1);
            c.same("a run", runs.kind(bits(0, 1, 2)), 2);
            c.same("both with a card in both", runs.kind(bits(0, 13, 26, 1, 2)), 0);
            c.same("both beside one another", runs.kind(bits(12, 25, 38, 0, 1, 2)), 0);
            c.same("two runs", runs.kind(bits(0, 1, 2, 13, 14, 15)), 0);
            c.same("two sets", runs.kind(bits(0, 13, 26, 1, 14, 27)), 0);
            c.same("all cards", runs.kind((1L << 52) - 1), 0);
        });
    }
}
