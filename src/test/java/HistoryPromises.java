/** The sentences of the promises 8 to 12: what is undone and kept, and the text buffer. */
final class HistoryPromises {
    private HistoryPromises() {
    }

    static void test(Sentences all) {
        undo(all);
        keep(all);
        restore(all);
        append(all);
        truncate(all);
    }

    private static void undo(Sentences all) {
        all.test("Promise 8", "Undoes the latest change that was not undone.", c -> {
            WrapRuns runs = new WrapRuns();
            runs.set(false, 1);
            runs.set(false, 2);
            runs.set(false, 3);
            runs.undo();
            c.same("the third", runs.match(1), 2);
            runs.undo();
            c.same("the second", runs.match(1), 1);
            runs.set(false, 4);
            runs.undo();
            c.same("the fourth", runs.match(1), 1);
            runs.undo();
            c.same("the first", runs.match(1), 10);
        });
        all.test("Promise 8", "Returns how many changes can still be undone", c -> {
            WrapRuns runs = new WrapRuns();
            runs.set(false, 1);
            c.same("one of one", runs.undo(), 0);
            for (int i = 0; i < 10; i++) {
                runs.set(false, i);
            }
            c.same("one of ten", runs.undo(), 9);
            runs.set(false, 1);
            runs.set(false, 2);
            c.same("one of eleven", runs.undo(), 9);
            c.same("two", runs.undo(), 8);
        });
        all.test("Promise 8", "NONE if there was none.", c -> {
            WrapRuns runs = new WrapRuns();
            c.same("a new object", runs.undo(), WrapRuns.NONE);
            runs.set(false, 1);
            runs.undo();
            String before = Matches.state(runs);
            c.same("all undone", runs.undo(), WrapRuns.NONE);
            c.same("nothing happens", Matches.state(runs), before);
            c.same("nothing can be undone", runs.match(15), 0);
        });
    }

    private static void keep(Sentences all) {
        all.test("Promise 9", "Keeps all that undo() concerns in a slot", c -> {
            String[] texts = {"", "stock;", "pile;", "stock;drop 51;", "stock;knock 51;", "stock;knock 51;deal;"};
            for (String moves : texts) {
                WrapRuns runs = Texts.begun(Matches.ALL_LAID + moves);
                String kept = Matches.state(runs);
                runs.keep(0);
                Texts.load(runs, "cards 8 8 8 88;pile;");
                c.isTrue("it is another state behind " + moves, !Matches.state(runs).equals(kept));
                runs.restore(0);
                c.same("state behind " + moves, Matches.state(runs), kept);
            }
            WrapRuns pile = Texts.begun(Matches.TWO_RUNS + "pile;");
            pile.keep(1);
            pile.drop(51);
            pile.restore(1);
            c.same("the card from the pile", pile.drop(29), -105);
        });
        all.test("Promise 9", "in place of what was there.", c -> {
            WrapRuns runs = new WrapRuns();
            runs.keep(0);
            runs.keep(1);
            runs.set(false, 3);
            runs.keep(0);
            runs.set(false, 4);
            runs.restore(0);
            c.same("the later one", runs.match(1), 3);
            runs.restore(1);
            c.same("the other slot", runs.match(1), 10);
        });
        all.test("Promise 9", "This is no change.", c -> {
            WrapRuns runs = new WrapRuns();
            runs.set(false, 3);
            String before = Matches.all(runs);
            runs.keep(0);
            c.same("nothing is different", Matches.all(runs), before);
            c.same("undo", runs.undo(), 0);
            c.same("of the change ahead", runs.match(1), 10);
        });
        all.test("Promise 9", "slot: 0 or 1", c -> {
            WrapRuns runs = new WrapRuns();
            c.same("0", runs.keep(0), 0);
            runs.set(false, 3);
            c.same("1", runs.keep(1), 0);
            runs.set(false, 4);
            runs.restore(0);
            c.same("slot 0", runs.match(1), 10);
            runs.restore(1);
            c.same("slot 1", runs.match(1), 3);
        });
        all.test("Promise 9", "Returns the number of the round.", c -> {
            WrapRuns runs = Matches.emptied("cards 1 10 10 100;");
            c.same("round 0", runs.keep(0), 0);
            runs.deal();
            c.same("round 1", runs.keep(0), 1);
            Matches.empty(runs);
            runs.deal();
            c.same("round 2", runs.keep(1), 2);
        });
        all.test("Promise 9", "Throws IllegalArgumentException if an argument is out of its range", c -> {
            WrapRuns runs = new WrapRuns();
            for (int slot : new int[] {-1, 2, Integer.MIN_VALUE, Integer.MAX_VALUE}) {
                c.outOfRange("slot " + slot, () -> runs.keep(slot));
            }
            c.throwsA("nothing is kept in 0", IllegalStateException.class, () -> runs.restore(0));
            c.throwsA("nothing is kept in 1", IllegalStateException.class, () -> runs.restore(1));
        });
    }

    private static void restore(Sentences all) {
        all.test("Promise 10", "Makes all as it was kept in a slot", c -> {
            WrapRuns runs = Matches.twoRuns();
            String first = Matches.state(runs);
            runs.keep(1);
            runs.draw(false);
            runs.knock(51);
            runs.deal();
            runs.restore(1);
            c.same("state", Matches.state(runs), first);
            c.same("the stock goes on", runs.draw(false), 33);
        });
        all.test("Promise 10", "which keeps it", c -> {
            WrapRuns runs = new WrapRuns();
            runs.set(false, 3);
            runs.keep(0);
            for (int i = 0; i < 3; i++) {
                runs.set(false, 4);
                runs.draw(false);
                runs.restore(0);
                c.same("KNOCK", runs.match(1), 3);
                c.same("nothing drawn", runs.match(5), 0);
            }
        });
        all.test("Promise 10", "nothing can be undone then.", c -> {
            WrapRuns runs = new WrapRuns();
            runs.set(false, 3);
            runs.keep(0);
            runs.set(false, 4);
            runs.restore(0);
            c.same("changes", runs.match(15), 0);
            c.same("undo", runs.undo(), WrapRuns.NONE);
            c.same("KNOCK stays", runs.match(1), 3);
            runs.set(false, 5);
            c.same("a change behind it", runs.undo(), 0);
            c.same("is undone", runs.match(1), 3);
            c.same("no more", runs.undo(), WrapRuns.NONE);
        });
        all.test("Promise 10", "slot: 0 or 1", c -> {
            WrapRuns runs = new WrapRuns();
            runs.keep(1);
            c.throwsA("0 is another", IllegalStateException.class, () -> runs.restore(0));
            c.same("1", runs.restore(1), 0);
            runs.keep(0);
            c.same("0", runs.restore(0), 0);
        });
        all.test("Promise 10", "Returns the number of the round then.", c -> {
            WrapRuns runs = Matches.emptied("cards 1 10 10 100;");
            runs.keep(0);
            runs.deal();
            runs.keep(1);
            c.same("from 1 to 0", runs.restore(0), 0);
            c.same("from 0 to 1", runs.restore(1), 1);
        });
        all.test("Promise 10", "Throws IllegalArgumentException if an argument is out of its range", c -> {
            WrapRuns runs = new WrapRuns();
            runs.keep(0);
            runs.keep(1);
            for (int slot : new int[] {-1, 2, Integer.MIN_VALUE, Integer.MAX_VALUE}) {
                c.outOfRange("slot " + slot, () -> runs.restore(slot));
            }
            WrapRuns empty = new WrapRuns();
            c.outOfRange("ahead of nothing being there", () -> empty.restore(-1));
        });
        all.test("Promise 10", "Throws IllegalStateException if nothing was kept there", c -> {
            WrapRuns runs = new WrapRuns();
            c.throwsA("slot 0", IllegalStateException.class, () -> runs.restore(0));
            runs.keep(0);
            c.throwsA("slot 1", IllegalStateException.class, () -> runs.restore(1));
            c.same("slot 0 is kept", runs.restore(0), 0);
            c.throwsA("slot 1 still", IllegalStateException.class, () -> runs.restore(1));
        });
    }

    private static void append(Sentences all) {
        all.test("Promise 11", "Appends 20 bytes to the text buffer", c -> {
            WrapRuns runs = new WrapRuns();
            runs.append(0x63617264, 0x73203120, 0x37203130, 0x20313030, 0x3b737461);
            runs.append(0x636b3b20, 0x20202020, 0x20202020, 0x20202020, 0x2020203f);
            c.same("bytes", runs.match(16), 40);
            // The words are moved by one: "stack" is none, at 17.
            c.same("error at 17", runs.load(), -30 - (8 * 17 + 1));
            runs.append(0x63617264, 0x73203120, 0x37203130, 0x20313030, 0x3b73746f);
            runs.append(0x636b3b20, 0x20202020, 0x20202020, 0x20202020, 0x2020203f);
            c.same("the last byte", runs.load(), -30 - (8 * 39 + 1));
        });
        all.test("Promise 11", "the four bytes of each parameter, the most significant byte first.", c -> {
            WrapRuns runs = new WrapRuns();
            runs.append(0x63617264, 0x73203120, 0x37203130, 0x20313030, 0x3b202020);
            c.same("cards 1 7 10 100;", runs.load(), 7);
            runs.append(0x63617264, 0x73203120, 0x37203130, 0x20313030, 0x80ff00ff);
            c.same("bytes above 127", runs.load(), -30 - (8 * 16 + 1));
            runs.append(-1, 0, 0, 0, 0);
            c.same("a number below 0", runs.load(), -31);
            runs.append(0x2020203f, 0x3f3f3f3f, 0, 0, 0);
            c.same("the fourth byte", runs.load(), -30 - (8 * 3 + 1));
            runs.append(0x20202020, 0x20202020, 0x20202020, 0x20202020, 0x20203f20);
            c.same("the byte 18", runs.load(), -30 - (8 * 18 + 1));
        });
        all.test("Promise 11", "Returns the new length", c -> {
            WrapRuns runs = new WrapRuns();
            for (int length = 20; length <= 500; length += 20) {
                c.same("length", runs.append(0, 0, 0, 0, 0), length);
            }
            runs.truncate(7);
            c.same("behind 7", runs.append(0, 0, 0, 0, 0), 27);
        });
        all.test("Promise 11", "NO_ROOM if it would be greater than 500", c -> {
            WrapRuns runs = new WrapRuns();
            Texts.put(runs, " ".repeat(480));
            c.same("500", runs.append(0, 0, 0, 0, 0), 500);
            c.same("520", runs.append(0, 0, 0, 0, 0), WrapRuns.NO_ROOM);
            runs.truncate(481);
            c.same("501", runs.append(0, 0, 0, 0, 0), WrapRuns.NO_ROOM);
            runs.truncate(480);
            c.same("500 again", runs.append(0, 0, 0, 0, 0), 500);
        });
        all.test("Promise 11", "(nothing is appended then).", c -> {
            WrapRuns runs = new WrapRuns();
            Texts.put(runs, "cards 1 7 10 100;" + " ".repeat(464));
            c.same("no room", runs.append(-1, -1, -1, -1, -1), WrapRuns.NO_ROOM);
            c.same("length", runs.match(16), 481);
            c.same("text", runs.load(), 7);
        });
    }

    private static void truncate(Sentences all) {
        all.test("Promise 12", "Shortens the text buffer.", c -> {
            WrapRuns runs = new WrapRuns();
            Texts.put(runs, "cards 1 7 10 100;stock;x");
            runs.truncate(23);
            c.same("bytes", runs.match(16), 23);
            c.same("the end is cut off", runs.load(), 7);
            Texts.put(runs, "cards 1 7 10 100;");
            runs.truncate(16);
            c.same("too early", runs.load(), -30 - (8 * 16 + 1));
            Texts.put(runs, "cards 1 7 10 10?;");
            runs.truncate(15);
            Texts.put(runs, "0;");
            c.same("appended behind it", runs.load(), 7);
        });
        all.test("Promise 12", "length: 0 to the present length", c -> {
            WrapRuns runs = new WrapRuns();
            c.same("0 of 0", runs.truncate(0), 0);
            Texts.put(runs, "cards 1 7 10 100;");
            c.same("17 of 17", runs.truncate(17), 17);
            c.same("nothing is cut off", runs.load(), 7);
            Texts.put(runs, " ".repeat(500));
            c.same("500 of 500", runs.truncate(500), 500);
            c.same("0 of 500", runs.truncate(0), 0);
            c.same("nothing is left", runs.load(), -31);
        });
        all.test("Promise 12", "Returns the length then.", c -> {
            WrapRuns runs = new WrapRuns();
            Texts.put(runs, " ".repeat(20));
            c.same("19", runs.truncate(19), 19);
            c.same("1", runs.truncate(1), 1);
            c.same("0", runs.truncate(0), 0);
        });
        all.test("Promise 12", "Throws IllegalArgumentException if an argument is out of its range", c -> {
            WrapRuns runs = new WrapRuns();
            c.outOfRange("1 of 0", () -> runs.truncate(1));
            c.outOfRange("-1 of 0", () -> runs.truncate(-1));
            Texts.put(runs, " ".repeat(20));
            for (int length : new int[] {-1, 21, 500, Integer.MIN_VALUE, Integer.MAX_VALUE}) {
                c.outOfRange(length + " of 20", () -> runs.truncate(length));
            }
            c.same("length stays", runs.match(16), 20);
            runs.truncate(5);
            c.outOfRange("6 of 5", () -> runs.truncate(6));
        });
    }
}
