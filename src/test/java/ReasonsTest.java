/** Promises 20 to 29: reasons and what would be. */
public final class ReasonsTest {
    private static final Check CHECK = new Check();

    private ReasonsTest() {
    }

    public static void main(String[] args) {
        restWithout();
        bestDrop();
        restByPile();
        helping();
        ifKnock();
        needed();
        kind();
        gap();
        meanRest();
        laid();
        CHECK.end("ReasonsTest");
    }

    private static void restWithout() {
        WrapRuns runs = new WrapRuns();
        CHECK.same("20 the one that is left", runs.restWithout(45), 0);
        CHECK.same("20 one of a run", runs.restWithout(12), 7 + 2);
        CHECK.same("20 one of a set", runs.restWithout(13), 7 + 2);
        runs = Matches.twoRuns();
        runs.draw(false);
        CHECK.same("20 drawn", runs.restWithout(33), 10);
        CHECK.same("20 other one left", runs.restWithout(51), 8);
        runs.drop(51);
        CHECK.same("20 of the one to move", runs.restWithout(45), 4 + 4 + 8);
        WrapRuns any = runs;
        CHECK.noSuchCard("20 other one's card", () -> any.restWithout(0));
        CHECK.noSuchCard("20 card of the pile", () -> any.restWithout(51));
        CHECK.noSuchCard("20 card -1", () -> any.restWithout(-1));
        CHECK.noSuchCard("20 card 52", () -> any.restWithout(52));
        CHECK.noSuchCard("20 card 68", () -> any.restWithout(68));
        WrapRuns over = Matches.twoRuns();
        over.draw(false);
        over.knock(51);
        CHECK.same("20 round over", over.restWithout(33), 0);
    }

    private static void bestDrop() {
        WrapRuns runs = Matches.twoRuns();
        CHECK.same("21 not drawn", runs.bestDrop(), WrapRuns.NONE);
        runs.draw(false);
        CHECK.same("21 the dearer one", runs.bestDrop(), 51);
        runs.knock(51);
        CHECK.same("21 round over", runs.bestDrop(), WrapRuns.NONE);
        // Of several with the most points the least: Qd, Kh and Ts each leave 24.
        runs = Texts.begun("cards 5 7 10 100;deck 0 1 2 24 38 48 16 3 15 26 28 30 42 44 20;pile;");
        CHECK.same("21 the least", runs.bestDrop(), 24);
        // Either end of A to 4 is as good, and so is any other card: the one with the most points.
        runs = Texts.begun("cards 5 7 10 100;deck 0 1 2 13 14 15 3 51 26 28 30 42 44 47 20 16;stock;");
        CHECK.same("21 REST is 0 without 4c, 4d", runs.bestDrop(), 3);
        // Not the one with the most points: the kings are a set, and 3h is the one that is left.
        runs = Texts.begun("cards 5 7 10 100;deck 12 25 38 0 1 2 28 13 14 30 31 42 44 47 33 3;stock;");
        CHECK.same("21 the one that is left", runs.bestDrop(), 28);
        // Ac is the least card, and the only one outside of the runs 2d 3d 4d 5d and Jh Qh Kh.
        runs = Texts.begun("cards 5 7 10 100;deck 0 14 15 16 36 37 38 1 2 30 31 42 44 47 33 17;stock;");
        CHECK.same("21 the card 0", runs.bestDrop(), 0);
        // Ks was drawn from the pile, so it stays; 7d is dropped though Ks would leave less.
        runs = Texts.begun("cards 5 7 10 100;deck 0 1 2 13 14 15 19 26 28 30 42 44 47 33 51;pile;");
        CHECK.same("21 not the one from the pile", runs.bestDrop(), 19);
    }

    private static void restByPile() {
        WrapRuns runs = Matches.twoRuns();
        CHECK.same("22 4h for Ks", runs.restByPile(), 4);
        runs.draw(false);
        CHECK.same("22 drawn", runs.restByPile(), WrapRuns.NONE);
        runs.drop(33);
        CHECK.same("22 8h for the other one", runs.restByPile(), 4 + 4 + 7 + 8 - 8 + 8);
        runs.draw(true);
        CHECK.same("22 the pile is not empty, but drawn", runs.restByPile(), WrapRuns.NONE);
        runs.knock(3);
        CHECK.same("22 not over yet, REST is above KNOCK", runs.match(6), 0);
        runs.drop(3);
        runs.draw(false);
        runs.knock(51);
        CHECK.same("22 round over", runs.restByPile(), WrapRuns.NONE);
        runs = Texts.begun("cards 5 7 10 100;deck 1 2 3 14 15 16 51 27 28 30 42 44 47 33 0;");
        CHECK.same("22 the card 0 is the top", runs.restByPile(), 0);
        // Ks from the pile must be kept: 7d goes in place of it.
        runs = Texts.begun("cards 5 7 10 100;deck 0 1 2 13 14 15 19 26 28 30 42 44 47 33 51;");
        CHECK.same("22 the top is not dropped itself", runs.restByPile(), 10);
        runs.draw(true);
        CHECK.same("22 the pile is empty", runs.restByPile(), WrapRuns.NONE);
    }

    private static void helping() {
        WrapRuns runs = new WrapRuns();
        // All cards of up to 6 points in place of 7s (there are 3 twos left, no ace), and Qc to the run.
        CHECK.same("23 player 0", runs.helping(0), 3 + 4 * 4 + 1);
        runs = Matches.holding(0, 1, 2, 13, 14, 15, 16);
        CHECK.same("23 REST is 0", runs.helping(0), 0);
        runs = Matches.holding(0, 1, 2, 13, 14, 15, 51);
        // In place of Ks: the 30 cards left of ranks 0 to 8, and Kc, Kd to the runs.
        CHECK.same("23 a king is left", runs.helping(0), 30 + 2);
        // 2c 3c 4c and 2d 3d 4d with 2s: only Ac, 5c, Ad, 5d, and the aces As and Ah in place of 2s.
        CHECK.same("23 the card 0 helps", Matches.holding(1, 2, 3, 14, 15, 16, 40).helping(0), 6);
        int card = runs.draw(false);
        CHECK.same("23 drawn", runs.helping(0), WrapRuns.NONE);
        CHECK.isTrue("23 the other one", runs.helping(1) >= 0);
        runs.drop(card);
        CHECK.same("23 dropped", runs.helping(0), 32);
        WrapRuns any = runs;
        CHECK.outOfRange("23 player -1", () -> any.helping(-1));
        CHECK.outOfRange("23 player 2", () -> any.helping(2));
        WrapRuns over = Matches.twoRuns();
        over.draw(false);
        over.knock(51);
        CHECK.same("23 round over: 8h is left, 7 ranks and 4c 4d, Kc Kd", over.helping(0), 28 - 6 + 2);
    }

    private static void ifKnock() {
        WrapRuns runs = Matches.twoRuns();
        CHECK.same("24 not drawn", runs.ifKnock(51, 0), 4);
        for (int what = 1; what <= 3; what++) {
            CHECK.same("24 not drawn " + what, runs.ifKnock(51, what), WrapRuns.NONE);
        }
        runs.draw(false);
        row(runs, "may", 51, 0, 8, 15, 2);
        row(runs, "may with the card drawn", 33, 0, 10, 15, 2);
        row(runs, "above KNOCK, a run of two is none", 0, 6, 5 + 18, 4 + 7 + 8, 1);
        runs.set(false, 7);
        row(runs, "may not", 51, 6, 8, 15, 2);
        String ahead = Matches.state(runs);
        runs.ifKnock(51, 2);
        CHECK.same("24 changes nothing", Matches.state(runs), ahead);
        runs.set(false, 10);
        runs.knock(51);
        CHECK.same("24 over", runs.ifKnock(33, 0), 2);
        for (int what = 1; what <= 3; what++) {
            CHECK.same("24 over " + what, runs.ifKnock(33, what), WrapRuns.NONE);
        }
        runs = Matches.twoRuns();
        runs.draw(true);
        row(runs, "from the pile", 29, 5, 10, 15, 2);
        runs = Matches.allLaid();
        runs.draw(false);
        row(runs, "K 0", 51, 0, 0, 25, 0);
        runs = Texts.begun(Matches.TWO_RUNS.replace(" 51 26 27 28", " 39 26 27 28").replace("29 33", "29 51") + "stock;");
        row(runs, "K 1", 51, 0, 1, 15, 2);
        WrapRuns any = runs;
        CHECK.outOfRange("24 what -1", () -> any.ifKnock(51, -1));
        CHECK.outOfRange("24 what 4", () -> any.ifKnock(51, 4));
        CHECK.noSuchCard("24 card 52", () -> any.ifKnock(52, 0));
        CHECK.noSuchCard("24 other one's card", () -> any.ifKnock(26, 0));
        CHECK.noSuchCard("24 the card comes first", () -> any.ifKnock(-1, 9));
        CHECK.outOfRange("24 what, not drawn", () -> Matches.twoRuns().ifKnock(51, 4));
    }

    private static void row(WrapRuns runs, String label, int card, int... due) {
        for (int what = 0; what <= 3; what++) {
            CHECK.same("24 " + label + " " + what, runs.ifKnock(card, what), due[what]);
        }
    }

    private static void needed() {
        WrapRuns runs = Matches.twoRuns();
        CHECK.same("25 not drawn", runs.needed(), WrapRuns.NONE);
        runs.draw(false);
        CHECK.same("25 drawn", runs.needed(), 8);
        runs.set(false, 7);
        CHECK.same("25 less is refused", runs.knock(51), -1006);
        runs.set(false, 8);
        CHECK.same("25 is enough", runs.knock(51), 7);
        CHECK.same("25 round over", runs.needed(), WrapRuns.NONE);
        runs = Texts.begun("cards 5 7 10 100;deck 0 1 2 13 14 15 19 26 28 30 42 44 47 33 51;pile;");
        CHECK.same("25 Ks from the pile stays", runs.needed(), 10);
        runs = Texts.begun("cards 5 7 10 100;deck 0 1 2 13 14 15 19 26 28 30 42 44 47 33 8 51;stock;");
        CHECK.same("25 Ks from the stock goes", runs.needed(), 7);
        runs = Matches.allLaid();
        runs.draw(false);
        CHECK.same("25 0", runs.needed(), 0);
    }

    private static long bits(int... cards) {
        long bits = 0;
        for (int card : cards) {
            bits |= 1L << card;
        }
        return bits;
    }

    private static void kind() {
        WrapRuns runs = new WrapRuns();
        CHECK.same("26 nothing", runs.kind(0), 0);
        CHECK.same("26 one", runs.kind(1), 0);
        CHECK.same("26 two of a rank", runs.kind(bits(0, 13)), 0);
        CHECK.same("26 two in a row", runs.kind(bits(0, 1)), 0);
        CHECK.same("26 three of a rank", runs.kind(bits(12, 25, 51)), 1);
        CHECK.same("26 without suit 0", runs.kind(bits(13, 26, 39)), 1);
        CHECK.same("26 four of a rank", runs.kind(bits(5, 18, 31, 44)), 1);
        CHECK.same("26 four and another", runs.kind(bits(5, 18, 31, 44, 45)), 0);
        CHECK.same("26 three, not one rank", runs.kind(bits(5, 18, 32)), 0);
        CHECK.same("26 a gap", runs.kind(bits(0, 1, 3)), 0);
        CHECK.same("26 two parts", runs.kind(bits(0, 1, 2, 4, 5, 6)), 0);
        CHECK.same("26 two parts around the end", runs.kind(bits(11, 12, 0, 5, 6)), 0);
        CHECK.same("26 another suit", runs.kind(bits(0, 1, 15)), 0);
        CHECK.same("26 from suit to suit", runs.kind(bits(11, 12, 13)), 0);
        CHECK.same("26 the last and the first card", runs.kind(bits(50, 51, 0)), 0);
        for (int suit = 0; suit < 4; suit++) {
            for (int first = 0; first < 13; first++) {
                long run = 0;
                for (int size = 1; size <= 13; size++) {
                    run |= 1L << 13 * suit + (first + size - 1) % 13;
                    CHECK.same("26 " + suit + " " + first + " " + size, runs.kind(run), size < 3 ? 0 : 2);
                }
            }
        }
        CHECK.same("26 a suit and a card", runs.kind(8191L << 13 | 1), 0);
        CHECK.same("26 all cards", runs.kind(4503599627370495L), 0);
        CHECK.outOfRange("26 one more", () -> runs.kind(4503599627370496L));
        CHECK.outOfRange("26 -1", () -> runs.kind(-1));
        CHECK.outOfRange("26 least long", () -> runs.kind(Long.MIN_VALUE));
        CHECK.outOfRange("26 greatest long", () -> runs.kind(Long.MAX_VALUE));
        CHECK.outOfRange("26 a run and a bit above", () -> runs.kind(7L | 1L << 52));
    }

    private static void gap() {
        WrapRuns runs = Matches.twoRuns();
        CHECK.same("27 begun", runs.gap(), 0);
        runs.draw(true);
        CHECK.same("27 drawn from the pile", runs.gap(), 0);
        runs.drop(51);
        CHECK.same("27 dropped", runs.gap(), 0);
        runs.draw(false);
        CHECK.same("27 drawn from the stock", runs.gap(), 0);
        runs.undo();
        CHECK.same("27 undone", runs.gap(), 0);
        runs = Matches.twoRuns();
        runs.draw(false);
        runs.knock(51);
        CHECK.same("27 round over", runs.gap(), 0);
        runs.deal();
        CHECK.same("27 dealt", runs.gap(), 0);
        CHECK.same("27 stock is empty", Matches.emptied(Matches.TWO_RUNS).gap(), 0);
    }

    private static void meanRest() {
        CHECK.sameBits("28 new", new WrapRuns().meanRest(), 21.0);
        CHECK.sameBits("28 a half", Matches.twoRuns().meanRest(), 16.5);
        WrapRuns runs = Matches.allLaid();
        runs.draw(false);
        runs.drop(51);
        CHECK.sameBits("28 one has 0", runs.meanRest(), 12.5);
    }

    private static void laid() {
        WrapRuns runs = new WrapRuns();
        CHECK.sameBits("29 player 0", runs.laid(0), 6f / 7f);
        CHECK.sameBits("29 player 1", runs.laid(1), 3f / 7f);
        runs.draw(false);
        CHECK.sameBits("29 drawn", runs.laid(0), (float) (8 - runs.player(0, 3)) / 8f);
        CHECK.sameBits("29 none", Matches.holding(1, 4, 7, 10, 15, 18, 21).laid(0), 0f);
        CHECK.sameBits("29 all", Matches.holding(0, 1, 2, 13, 14, 15, 16).laid(0), 1f);
        CHECK.outOfRange("29 player -1", () -> runs.laid(-1));
        CHECK.outOfRange("29 player 2", () -> runs.laid(2));
    }
}
