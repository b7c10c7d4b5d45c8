/** The sentences of the terms about what a knock brings. */
final class KnockSentences {
    private KnockSentences() {
    }

    static void test(Sentences all) {
        rests(all);
        adding(all);
        points(all);
        scores(all);
    }

    /** Draws from the stock: the class tells K, O, how many cards are added, and what a knock brings. */
    private static void knock(Check c, String text, int card, int... due) {
        WrapRuns runs = Texts.begun(text);
        runs.draw(false);
        c.same("K", runs.ifKnock(card, 1), due[0]);
        c.same("O", runs.ifKnock(card, 2), due[1]);
        c.same("added", runs.ifKnock(card, 3), due[2]);
        c.same("points", runs.knock(card), due[3]);
    }

    private static void rests(Sentences all) {
        all.test("Terms 3", "K is REST of the one who knocked.", c -> {
            knock(c, Matches.TWO_RUNS, 51, 8, 15, 2, 7);
            knock(c, Matches.TWO_RUNS, 33, 10, 15, 2, 5);
            knock(c, Matches.ALL_LAID, 51, 0, 25, 0, 45);
            knock(c, Matches.leaving(39, 33), 51, 1, 8, 0, 7);
        });
        all.test("Terms 3", "The other one lays the own hand out (THE LAYING)", c -> {
            // Of player 1 the sets are laid out, and 7h, 8h or 9h is left, or Ts is laid to the tens.
            knock(c, Matches.leaving(46, 32), 51, 8, 7, 0, -11);
            knock(c, Matches.leaving(46, 48), 51, 8, 0, 0, -18);
            // A card that is laid out is not added: 4c of the own 4c 4d 4h could go behind Ac 2c 3c.
            knock(c, "cards 5 7 20 100;deck 0 1 2 13 14 15 46 3 16 29 48 36 24 34 50 51;", 51, 8, 39, 0, 31);
        });
        all.test("Terms 3", "if K is above 0", c -> {
            // 4c and 4d of player 1 could be added to the runs of player 0.
            knock(c, Matches.TWO_RUNS, 51, 8, 15, 2, 7);
            knock(c, Matches.TWO_RUNS.replace(" 51 26", " 39 26").replace("29 33", "29 51"), 51, 1, 15, 2, 14);
            knock(c, Matches.TWO_RUNS.replace(" 51 26", " 12 26").replace("29 33", "29 51"), 51, 0, 23, 0, 43);
        });
    }

    private static void adding(Sentences all) {
        all.test("Terms 3", "cards that are left there are added to MELDS of the one who knocked: as long as one can be"
                + " added", c -> {
            // None: neither 8c, two places behind 4c 5c 6c, nor the fourth of no set.
            knock(c, "cards 5 7 20 100;deck 3 4 5 22 35 48 40 7 1 0 25 38 27 30 50 51;", 51, 2, 38, 0, 36);
            // Five: Ac, 5c, 6c and Kc to 2c 3c 4c, and Tc to the tens; not 6d and 5h.
            knock(c, "cards 5 7 20 100;deck 1 2 3 22 35 48 40 4 5 0 12 9 18 30 50 51;", 51, 2, 11, 5, 9);
        });
        all.test("Terms 3", "the one with the least number, to the MELD with the least number that takes it", c -> {
            // 7h goes to the sevens, numbered 0, so 6h can't go to the run 8h 9h Th.
            knock(c, "cards 5 7 20 100;deck 6 19 45 33 34 35 40 32 31 0 2 17 24 50 48 51;", 51, 2, 35, 1, 33);
            // 7c goes to the run 4c 5c 6c, numbered 0, and 8c goes behind it; not to the sevens.
            knock(c, "cards 5 7 20 100;deck 3 4 5 19 32 45 40 6 7 13 28 24 50 22 48 51;", 51, 2, 34, 2, 32);
        });
        all.test("Terms 3", "(a SET of 3 the fourth one", c -> {
            // 9s goes to 9c 9d 9h; Td is no nine.
            knock(c, "cards 5 7 20 100;deck 8 21 34 1 2 3 40 47 22 6 13 28 38 18 50 51;", 51, 2, 37, 1, 35);
        });
        all.test("Terms 3", "a RUN of fewer than 13 the one ahead of its first or behind its last one, as it is by then)",
                c -> {
            // 2c 3c 4c: ahead of it Ac and then Kc, behind it 5c and then 6c; not Jd, Kh, 5h.
            knock(c, "cards 5 7 20 100;deck 1 2 3 22 35 48 40 4 5 0 12 23 38 30 51 50;", 50, 2, 25, 4, 23);
            // Jc Qc Kc: behind it Ac and then 2c, ahead of it Tc; not Ad.
            knock(c, "cards 5 7 20 100;deck 10 11 12 17 30 43 40 0 1 9 13 20 33 34 51 50;", 50, 2, 26, 3, 24);
            // 5c to Kc are three runs: 4c goes ahead of the first, Ac and 2c behind the last one.
            knock(c, "cards 5 10 20 100;deck 4 5 6 7 8 9 10 11 12 51 0 1 3 14 17 20 28 31 34 44 46 48;", 48, 10, 39, 3, 29);
            // Ac to 9c are three runs: Kc and Qc go ahead of the first, Tc behind the last one.
            knock(c, "cards 5 10 20 100;deck 0 1 2 3 4 5 6 7 8 51 9 11 12 14 17 20 28 31 34 44 46 48;", 48, 10, 39, 3, 29);
        });
        all.test("Terms 3", "O is the sum of the POINTS of those that are left then.", c -> {
            knock(c, Matches.leaving(46, 51).replace("29 51", "29 50"), 50, 8, 10, 0, 2);
            knock(c, Matches.leaving(46, 39), 51, 8, 1, 0, -17);
            // 4c, the only one that is left, is added.
            knock(c, Matches.leaving(46, 3), 51, 8, 0, 1, -18);
            // All but three tens are left, and none is added.
            knock(c, "cards 5 7 20 100;deck 0 1 2 13 14 15 40 9 22 35 30 45 33 47 50 51;", 51, 2, 29, 0, 27);
        });
    }

    private static void points(Sentences all) {
        all.test("Terms 3", "If K is 0, the one who knocked gets O + 20 points", c -> {
            knock(c, Matches.ALL_LAID, 51, 0, 25, 0, 45);
            knock(c, Matches.leaving(3, 39), 51, 0, 1, 0, 21);
            knock(c, Matches.leaving(3, 48), 51, 0, 0, 0, 20);
        });
        all.test("Terms 3", "otherwise, if K is less than O, O - K", c -> {
            knock(c, Matches.leaving(39, 33), 51, 1, 8, 0, 7);
            knock(c, Matches.leaving(46, 34), 51, 8, 9, 0, 1);
            knock(c, Matches.leaving(39, 40), 51, 1, 2, 0, 1);
        });
        all.test("Terms 3", "otherwise the other one gets K - O + 10.", c -> {
            knock(c, Matches.leaving(46, 32), 51, 8, 7, 0, -11);
            knock(c, Matches.leaving(46, 48), 51, 8, 0, 0, -18);
            knock(c, Matches.leaving(39, 48), 51, 1, 0, 0, -11);
        });
        all.test("Terms 3", "(If K is O, that is 10.)", c -> {
            knock(c, Matches.leaving(46, 33), 51, 8, 8, 0, -10);
            knock(c, Matches.leaving(40, 27), 51, 2, 2, 0, -10);
        });
    }

    private static void scores(Sentences all) {
        all.test("Terms 3", "The points are added to the SCORES.", c -> {
            // From 17 player 0 has points in three rounds, from 8 player 1 has.
            for (int number : new int[] {17, 8}) {
                WrapRuns runs = Texts.begun(Matches.TWO_RUNS.replace("cards 5 7 10 100", "cards " + number + " 7 20 500"));
                runs.draw(false);
                int[] due = {runs.knock(51), 0};
                int[] won = {1, 0};
                for (int round = 1; round <= 3; round++) {
                    runs.deal();
                    int gain = knockAsSoonAsMayBe(runs);
                    int winner = gain > 0 ? runs.match(4) : 1 - runs.match(4);
                    due[winner] += Math.abs(gain);
                    won[winner]++;
                    c.same("points", runs.match(13), Math.abs(gain));
                    c.same("player 0, round " + round, runs.match(11), due[0]);
                    c.same("player 1, round " + round, runs.match(12), due[1]);
                }
                c.same("rounds of one player", Math.max(won[0], won[1]), 3);
            }
            WrapRuns other = Texts.begun(Matches.leaving(46, 33) + "stock;knock 51;");
            c.same("player 1's, of player 0's knock", other.match(12), 10);
            c.same("not player 0's", other.match(11), 0);
            other = Texts.begun(Matches.SECOND_EVEN + "stock;knock 50;");
            c.same("player 0's, of player 1's knock", other.match(11), 10);
            c.same("not player 1's", other.match(12), 0);
        });
        all.test("Terms 3", "The match is over when a round is over and a SCORE is TARGET or more", c -> {
            c.same("45 of 44", over(Matches.ALL_LAID.replace("10 100", "10 44")), 1);
            c.same("45 of 45", over(Matches.ALL_LAID.replace("10 100", "10 45")), 1);
            c.same("45 of 46", over(Matches.ALL_LAID.replace("10 100", "10 46")), 0);
            c.same("20 of 20", over(Matches.leaving(3, 48).replace("10 100", "10 20")), 1);
            c.same("20 of 21", over(Matches.leaving(3, 48).replace("10 100", "10 21")), 0);
            WrapRuns second = Texts.begun(Matches.SECOND_LAID.replace("10 100", "10 28") + "stock;knock 50;");
            c.same("28 of 28 of player 1", second.match(7), 1);
            second.set(true, 29);
            c.same("28 of 29 of player 1", second.match(7), 0);
            WrapRuns runs = Texts.begun(Matches.ALL_LAID + "stock;knock 51;deal;");
            runs.set(true, 20);
            c.same("the score is above it, but the round is not over", runs.match(7), 0);
            c.same("the player draws", runs.draw(false) >= 0 ? 1 : 0, 1);
            runs.undo();
            Matches.empty(runs);
            c.same("the round is over", runs.match(7), 1);
        });
        all.test("Terms 3", "otherwise the next round can be dealt.", c -> {
            WrapRuns runs = Texts.begun(Matches.ALL_LAID + "stock;knock 51;");
            runs.set(true, 45);
            c.same("45 of 45", runs.deal(), -8);
            runs.set(true, 46);
            c.same("45 of 46", runs.deal(), 1);
            c.same("not over", runs.match(6), 0);
            WrapRuns empty = Matches.emptied(Matches.TWO_RUNS);
            c.same("nobody won", empty.deal(), 1);
        });
    }

    private static int over(String text) {
        return Texts.begun(text + "stock;knock 51;").match(7);
    }

    private static int knockAsSoonAsMayBe(WrapRuns runs) {
        for (int turn = 0; turn < 37; turn++) {
            runs.draw(false);
            int best = runs.bestDrop();
            if (runs.needed() <= 20) {
                return runs.knock(best);
            }
            runs.drop(best);
        }
        throw new IllegalStateException("nobody could knock");
    }
}
