/** The sentences of the promises 30 and 31: the report. */
final class ReportPromises {
    private ReportPromises() {
    }

    static void test(Sentences all) {
        order(all);
        signs(all);
        lengths(all);
        bytes(all);
    }

    private static void laid(Check c, String due, int... cards) {
        c.same("laying", Texts.laying(Matches.holding(cards), 0), due);
    }

    private static void order(Sentences all) {
        all.test("Promise 30", "Writes THE LAYING of a player as a report, in place of the previous one", c -> {
            WrapRuns runs = Texts.begun(Matches.ALL_LAID + "stock;");
            c.same("player 0", Texts.laying(runs, 0), "Ac,2c,3c,4c Ad,2d,3d -Ks");
            runs.drop(51);
            c.same("it stays", Texts.report(runs), "Ac,2c,3c,4c Ad,2d,3d -Ks");
            c.same("a shorter one", Texts.laying(runs, 0), "Ac,2c,3c,4c Ad,2d,3d");
            c.same("player 1", Texts.laying(runs, 1), "Ah,2h,3h -6c,4d,7s,8s");
        });
        all.test("Promise 30", "for each MELD its cards (of a SET by ascending numbers", c -> {
            laid(c, "5c,5d,5h,5s -2c,8d,Jh", 43, 30, 17, 4, 36, 20, 1);
            laid(c, "Kd,Kh,Ks -2c,4c,6c,8c", 51, 25, 38, 7, 1, 3, 5);
        });
        all.test("Promise 30", "of a RUN from its first one)", c -> {
            laid(c, "Jc,Qc,Kc,Ac,2c -5d,8h", 0, 1, 10, 11, 12, 17, 33);
            laid(c, "Ks,As,2s -5c,7c,3d,5d", 51, 39, 40, 4, 15, 17, 6);
            laid(c, "Qh,Kh,Ah -5c,7c,3d,5d", 37, 38, 26, 4, 15, 17, 6);
            laid(c, "Ah,2h,3h -5c,7c,3d,5d", 28, 27, 26, 4, 15, 17, 6);
        });
        all.test("Promise 30", "then, if cards are left, a minus sign and these by ascending numbers", c -> {
            laid(c, "Ac,2c,3c Ad,2d,3d -Ks", 51, 0, 1, 2, 13, 14, 15);
            laid(c, "Ac,2c,3c Ad,2d,3d,4d", 0, 1, 2, 13, 14, 15, 16);
            laid(c, "-2c,5c,8c,Jc,3d,6d,9d", 21, 18, 15, 10, 7, 4, 1);
            laid(c, "-Ac,3c,Qd,Kd,4h,Qs,Ks", 0, 2, 24, 25, 29, 50, 51);
        });
    }

    private static void signs(Sentences all) {
        all.test("Promise 30", "with a comma between two cards of one MELD and of those that are left", c -> {
            laid(c, "Ac,2c,3c -7c,5d,8d,5h,8h", 0, 1, 2, 6, 17, 20, 30, 33);
            laid(c, "Ac,Ad,Ah -5d,9h,8s,Qs", 0, 13, 26, 17, 34, 46, 50);
        });
        all.test("Promise 30", "and a blank between two MELDS and ahead of the minus sign (not at the beginning).", c -> {
            laid(c, "Ac,2c,3c 4c,5c,6c 7c,8c,9c -Ks", 0, 1, 2, 3, 4, 5, 6, 7, 8, 51);
            laid(c, "Ac,2c,3c -7c,5d,8d,5h,8h", 0, 1, 2, 6, 17, 20, 30, 33);
            laid(c, "-2c,5c,8c,Jc,3d,6d,9d", 1, 4, 7, 10, 15, 18, 21);
            laid(c, "Ac,2c,3c 4c,5c,6c 7c,8c,9c,Tc", 0, 1, 2, 3, 4, 5, 6, 7, 8, 9);
        });
        all.test("Promise 30", "A card is told by its RANK (one of A23456789TJQK) and its SUIT (one of cdhs).", c -> {
            laid(c, "-Ac,5c,2d,6d,3h,7h,4s", 0, 14, 28, 42, 4, 18, 32);
            laid(c, "-9c,Kc,Td,Ah,Jh,8s,Qs", 46, 8, 22, 36, 50, 12, 26);
        });
        all.test("Promise 30", "player: 0 or 1", c -> {
            c.same("player 0", Texts.laying(new WrapRuns(), 0), "Kc,Ac,2c Ad,Ah,As -7s");
            c.same("player 1", Texts.laying(new WrapRuns(), 1), "3c,4c,5c -Qc,Qd,Kd,5h");
        });
    }

    private static void lengths(Sentences all) {
        all.test("Promise 30", "Returns the length of the report in bytes.", c -> {
            c.same("two melds and one left", new WrapRuns().writeLaying(0), 21);
            c.same("nothing is left", Matches.holding(0, 1, 2, 13, 14, 15, 16).writeLaying(0), 20);
            c.same("all are left", Matches.holding(1, 4, 7, 10, 15, 18, 21).writeLaying(0), 21);
            WrapRuns eleven = Texts.begun("cards 1 10 10 100;deck 0 2 4 6 8 14 16 18 20 22 1 3 5 7 9 11 24 26 39 51 13 41;stock;");
            c.same("eleven cards", eleven.player(0, 0), 11);
            c.same("all but three are left, the longest one", eleven.writeLaying(0), 11 * 2 + 10 + 1);
        });
        all.test("Promise 30", "Throws IllegalArgumentException if an argument is out of its range", c -> {
            WrapRuns runs = new WrapRuns();
            runs.writeLaying(1);
            for (int player : new int[] {-1, 2, Integer.MIN_VALUE, Integer.MAX_VALUE}) {
                c.outOfRange("player " + player, () -> runs.writeLaying(player));
            }
            c.same("the report stays", Texts.report(runs), "3c,4c,5c -Qc,Qd,Kd,5h");
        });
    }

    private static void bytes(Sentences all) {
        all.test("Promise 31", "Returns a byte of the report that was written last.", c -> {
            WrapRuns runs = new WrapRuns();
            runs.writeLaying(1);
            runs.writeLaying(0);
            String due = "Kc,Ac,2c Ad,Ah,As -7s";
            for (int index = 0; index < 21; index++) {
                c.same("byte " + index, runs.reportByte(index), due.charAt(index));
            }
        });
        all.test("Promise 31", "index: 0 for the first byte", c -> {
            WrapRuns runs = new WrapRuns();
            runs.writeLaying(0);
            c.same("first", runs.reportByte(0), 'K');
            c.same("last", runs.reportByte(20), 's');
        });
        all.test("Promise 31", "Returns the byte", c -> {
            WrapRuns runs = Matches.holding(1, 4, 7, 10, 15, 18, 21);
            runs.writeLaying(0);
            c.same("a minus sign", runs.reportByte(0), 45);
            c.same("a figure", runs.reportByte(1), 50);
            c.same("a letter", runs.reportByte(2), 99);
            c.same("a comma", runs.reportByte(3), 44);
        });
        all.test("Promise 31", "NONE if there is no such byte (any other index)", c -> {
            WrapRuns runs = Texts.begun(Matches.ALL_LAID + "stock;");
            runs.writeLaying(0);
            c.same("24 of 24", runs.reportByte(24), WrapRuns.NONE);
            for (int index : new int[] {-1, 64, 500, Integer.MIN_VALUE, Integer.MAX_VALUE}) {
                c.same("index " + index, runs.reportByte(index), WrapRuns.NONE);
            }
            runs.drop(51);
            runs.writeLaying(0);
            c.same("20 of 20, of the longer one", runs.reportByte(20), WrapRuns.NONE);
            c.same("19 of 20", runs.reportByte(19), 'd');
        });
        all.test("Promise 31", "or nothing was written.", c -> {
            WrapRuns runs = new WrapRuns();
            for (int index : new int[] {0, 1, -1, Integer.MIN_VALUE, Integer.MAX_VALUE}) {
                c.same("index " + index, runs.reportByte(index), WrapRuns.NONE);
            }
        });
    }
}
