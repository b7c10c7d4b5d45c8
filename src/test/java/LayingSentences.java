/** The sentences of the terms about layings and about which of them is THE LAYING. */
final class LayingSentences {
    private LayingSentences() {
    }

    static void test(Sentences all) {
        layings(all);
        ahead(all);
        numbers(all);
    }

    private static void laid(Check c, String due, int... cards) {
        c.same("laying", Texts.laying(Matches.holding(cards), 0), due);
    }

    private static void layings(Sentences all) {
        all.test("Terms 1", "A laying of a hand is a row of MELDS of its cards", c -> {
            laid(c, "-2c,5c,8c,Jc,3d,6d,9d", 1, 4, 7, 10, 15, 18, 21);
            laid(c, "Ac,2c,3c -7c,5d,8d,5h,8h", 0, 1, 2, 6, 17, 20, 30, 33);
            laid(c, "5c,5d,5h 6c,6d,6h 7c,7d,7h", 4, 5, 6, 17, 18, 19, 30, 31, 32);
            // Ten cards of one suit in a row hold 36 runs; around the end too.
            laid(c, "Ac,2c,3c 4c,5c,6c 7c,8c,9c,Tc", 0, 1, 2, 3, 4, 5, 6, 7, 8, 9);
            laid(c, "Qs,Ks,As 2s,3s,4s 5s,6s,7s,8s", 50, 51, 39, 40, 41, 42, 43, 44, 45, 46);
            // Eleven of one suit in a row hold 45 runs.
            WrapRuns runs = Texts.begun("cards 1 10 0 100;deck 4 5 6 7 8 9 10 11 12 0"
                    + " 14 16 18 20 22 24 28 30 32 34 36 1;stock;");
            c.same("laying of eleven", Texts.laying(runs, 0), "Kc,Ac,2c 5c,6c,7c 8c,9c,Tc,Jc,Qc");
        });
        all.test("Terms 1", "no card being in two of them", c -> {
            laid(c, "Ac,2c,3c -7d,Ah,9h,As", 0, 26, 39, 1, 2, 19, 34);
            laid(c, "Tc,Td,Th -Jc,Qc,Qd,Jh", 9, 22, 35, 10, 11, 24, 36);
            laid(c, "5c,6c,7c 5d,5h,5s -9d", 4, 17, 30, 43, 5, 6, 21);
        });
        all.test("Terms 1", "the cards that are in none are left.", c -> {
            WrapRuns all7 = Matches.holding(1, 4, 7, 10, 15, 18, 21);
            c.same("all", all7.player(0, 3), 7);
            WrapRuns none = Matches.holding(0, 1, 2, 13, 14, 15, 16);
            c.same("none", none.player(0, 3), 0);
            c.same("none of ten", Matches.holding(0, 1, 2, 13, 14, 15, 26, 27, 28, 29).player(0, 3), 0);
            WrapRuns one = Matches.holding(0, 1, 2, 13, 14, 15, 51);
            c.same("one", one.player(0, 3), 1);
            c.same("which one", one.meldOf(0, 51), WrapRuns.NONE);
        });
        all.test("Terms 1", "REST is the sum of the POINTS of the cards that are left.", c -> {
            c.same("all", Matches.holding(1, 4, 7, 10, 15, 18, 21).player(0, 1), 2 + 5 + 8 + 10 + 3 + 6 + 9);
            c.same("none", Matches.holding(0, 1, 2, 13, 14, 15, 16).player(0, 1), 0);
            c.same("an ace", Matches.holding(1, 2, 3, 14, 15, 16, 39).player(0, 1), 1);
            c.same("a king", Matches.holding(0, 1, 2, 13, 14, 15, 51).player(0, 1), 10);
        });
        all.test("Terms 1", "THE LAYING of a hand is the one with the least REST", c -> {
            // The set of aces would leave 2c 3c 2d 3d.
            laid(c, "Ac,2c,3c Ad,2d,3d -Ah", 0, 13, 26, 1, 2, 14, 15);
            // The run of Ac would leave Ad, Ah, As and the set of aces 2c, 3c: 3 is less than 5.
            laid(c, "Ac,2c,3c -Ad,7d,Ah,9h", 0, 13, 26, 1, 2, 19, 34);
            laid(c, "3c,3d,3h -Ac,2c,6d,9s", 0, 1, 2, 15, 28, 18, 47);
            // Q K A 2 would leave two kings; the kings leave more cards, but of fewer points.
            laid(c, "Kc,Kd,Kh -Ac,2c,Qc,5s", 11, 12, 0, 1, 25, 38, 43);
        });
    }

    private static void ahead(Sentences all) {
        all.test("Terms 1", "a MELD with it goes ahead of leaving it", c -> {
            // Two cards of 10 points are left in either case: Jc is the least card.
            laid(c, "Jc,Qc,Kc -2d,Kd,Kh,5s", 10, 11, 12, 25, 38, 14, 43);
            // The run of Td would leave Tc, Th; Tc is the least card.
            laid(c, "Tc,Td,Th -Jd,Qd,2h,5s", 9, 22, 35, 23, 24, 27, 43);
            laid(c, "Jd,Qd,Kd -3c,Kh,5s,Ks", 2, 23, 24, 25, 38, 51, 43);
        });
        all.test("Terms 1", "of two MELDS, the one with fewer cards goes ahead", c -> {
            laid(c, "Ac,2c,3c 4c,5c,6c -9d", 0, 1, 2, 3, 4, 5, 21);
            laid(c, "Ac,2c,3c 4c,5c,6c,7c", 0, 1, 2, 3, 4, 5, 6);
            laid(c, "Ac,2c,3c 4c,5c,6c,7c,8c", 0, 1, 2, 3, 4, 5, 6, 7);
            laid(c, "Ac,2c,3c Jc,Qc,Kc -9d", 10, 11, 12, 0, 1, 2, 21);
            // The set of three, and Ts to the run, not the set of four.
            laid(c, "Tc,Td,Th Ts,Js,Qs,Ks", 9, 22, 35, 48, 49, 50, 51);
        });
        all.test("Terms 1", "of two with as many, a SET ahead of a RUN", c -> {
            laid(c, "Tc,Td,Th -Jc,Qc,2d,5s", 9, 22, 35, 10, 11, 14, 43);
            // Four cards each: the set of four with the run of three behind, not the run of four.
            laid(c, "Tc,Td,Th,Ts Jc,Qc,Kc", 9, 10, 11, 12, 22, 35, 48);
        });
        all.test("Terms 1", "of two of the same kind, the one that has the least card that is not in both.", c -> {
            // With Th in the set Ts goes to a run, and the other way round; Th is the lesser one.
            laid(c, "Tc,Td,Th Ts,Js,Qs -Jh,Qh", 9, 22, 35, 48, 36, 37, 49, 50);
            // Td or Th in the set with Tc and Ts: Td.
            laid(c, "Tc,Td,Ts Th,Jh,Qh -Jd,Qd", 9, 22, 35, 48, 23, 24, 36, 37);
            // Ac with three more cards, of seven in a circle: 2c is less than Jc and Qc.
            laid(c, "Ac,2c,3c,4c Jc,Qc,Kc", 0, 1, 2, 3, 10, 11, 12);
        });
        all.test("Terms 1", "(So far as the least REST can still be had.)", c -> {
            // A set of nines goes ahead of the run, but would leave two tens.
            laid(c, "9c,Tc,Jc -2d,9d,9h,5s", 8, 21, 34, 9, 10, 14, 43);
            // Three cards go ahead of four, but would leave 4c.
            laid(c, "Ac,2c,3c,4c -7d,9h,Js", 0, 1, 2, 3, 19, 34, 49);
            // A meld with Ac goes ahead of leaving it, but would leave 2d 3d 2h 3h.
            laid(c, "Ad,2d,3d Ah,2h,3h -Ac", 0, 13, 26, 14, 15, 27, 28);
            // Three cards go ahead of four, but would leave 2c or Qc.
            laid(c, "Qc,Kc,Ac,2c -5d,8h,Js", 11, 12, 0, 1, 17, 33, 49);
        });
    }

    private static void numbers(Sentences all) {
        all.test("Terms 1", "Its MELDS are numbered from 0 in the order in which they are found like this.", c -> {
            // By the least card, not by the card with which a run begins, nor sets ahead of runs.
            WrapRuns runs = Matches.holding(51, 39, 40, 23, 24, 25, 2, 15, 28);
            int[][] due = {{2, 15, 28}, {23, 24, 25}, {39, 40, 51}};
            for (int meld = 0; meld < due.length; meld++) {
                for (int card : due[meld]) {
                    c.same("card " + card, runs.meldOf(0, card), meld);
                }
            }
            c.same("meld 0 is a set", runs.meld(0, 0, 1), 0);
            c.same("meld 1 begins", runs.meld(0, 1, 2), 23);
            c.same("meld 2 begins", runs.meld(0, 2, 2), 51);
            c.same("no meld 3", runs.meld(0, 3, 0), WrapRuns.NONE);
            // The run is found by Ac, ahead of the set with 3c, though that has fewer cards.
            laid(c, "Jc,Qc,Kc,Ac,2c 3c,3d,3s", 0, 1, 2, 10, 11, 12, 15, 41);
        });
        all.test("Terms 1", "of several, the one is taken that is found like this: card by card, by ascending numbers,"
                + " for each card that is in no MELD yet", c -> {
            // First 3c (the set of three), then 4c, then 3s, which is the least in no meld yet.
            laid(c, "3c,3d,3h 4c,5c,6c 3s,4s,5s", 2, 15, 28, 41, 3, 4, 5, 42, 43);
            // Kc decides ahead of Jd, which another set of kings would leave in a run.
            laid(c, "Kc,Kd,Ks Jh,Qh,Kh -Jd,Qd", 12, 25, 38, 51, 23, 24, 36, 37);
        });
    }
}
