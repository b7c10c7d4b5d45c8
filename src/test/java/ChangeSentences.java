/** The sentences of the terms about changes, refusals and exceptions. */
final class ChangeSentences {
    private ChangeSentences() {
    }

    static void test(Sentences all) {
        changes(all);
        undone(all);
        refused(all);
        reasons(all);
        exceptions(all);
        constants(all);
    }

    private static void changes(Sentences all) {
        all.test("Terms 5", "The methods from load() to set() are changes", c -> {
            WrapRuns runs = Matches.twoRuns();
            c.same("load", runs.match(15), 1);
            runs.draw(true);
            c.same("draw", runs.match(15), 2);
            runs.drop(51);
            c.same("drop", runs.match(15), 3);
            runs = Matches.twoRuns();
            runs.draw(false);
            runs.knock(51);
            c.same("knock", runs.match(15), 3);
            runs.deal();
            c.same("deal", runs.match(15), 4);
            runs.set(false, 3);
            c.same("set KNOCK", runs.match(15), 5);
            runs.set(true, 30);
            c.same("set TARGET", runs.match(15), 6);
            runs.keep(0);
            runs.append(0, 0, 0, 0, 0);
            runs.truncate(3);
            runs.writeLaying(0);
            runs.helping(0);
            c.same("no other call", runs.match(15), 6);
            c.same("undo is none", runs.undo(), 5);
            runs.restore(0);
            c.same("nor is restore", runs.match(15), 0);
        });
        all.test("Terms 5", "if they do not throw, are not refused and return no error", c -> {
            WrapRuns runs = new WrapRuns();
            c.noSuchCard("drop throws", () -> runs.drop(52));
            c.noSuchCard("knock throws", () -> runs.knock(-1));
            c.outOfRange("set throws", () -> runs.set(true, 0));
            c.same("drop is refused", runs.drop(45), -104);
            c.same("knock is refused", runs.knock(45), -1004);
            c.same("deal is refused", runs.deal(), -7);
            c.same("load has an error", runs.load(), -31);
            c.same("none of these", runs.match(15), 0);
            runs.draw(false);
            c.same("draw is refused", runs.draw(false), -103);
            c.same("but for the first draw", runs.match(15), 1);
        });
        all.test("Terms 5", "(also if nothing is different then).", c -> {
            WrapRuns runs = new WrapRuns();
            runs.set(false, 10);
            c.same("KNOCK as it was", runs.match(15), 1);
            runs.set(true, 100);
            c.same("TARGET as it was", runs.match(15), 2);
            Texts.load(runs, "cards 1 7 10 100; deck 12 0 1 26 39 13 45 25 11 24 2 3 4 30;");
            c.same("load of the same", runs.match(15), 3);
            c.same("undone", runs.undo(), 2);
            c.same("undone", runs.undo(), 1);
            c.same("undone", runs.undo(), 0);
        });
    }

    private static void undone(Sentences all) {
        all.test("Terms 5", "The latest 10 changes can be undone", c -> {
            WrapRuns runs = new WrapRuns();
            for (int value = 0; value <= 10; value++) {
                runs.set(false, value);
                c.same("changes", runs.match(15), Math.min(value + 1, 10));
            }
            for (int left = 9; left >= 0; left--) {
                c.same("undo", runs.undo(), left);
                c.same("as ahead of it", runs.match(1), left);
            }
            c.same("no eleventh", runs.undo(), WrapRuns.NONE);
            c.same("the first one stays", runs.match(1), 0);
            // The rows are used again behind that.
            for (int value = 0; value <= 3; value++) {
                runs.set(false, 20 - value);
            }
            c.same("undo again", runs.undo(), 3);
            c.same("as ahead of it", runs.match(1), 18);
        });
        all.test("Terms 5", "all is then as it was before the change", c -> {
            undoes(c, Matches.TWO_RUNS, "draw from the stock", runs -> runs.draw(false));
            undoes(c, Matches.TWO_RUNS, "draw from the pile", runs -> runs.draw(true));
            undoes(c, Matches.TWO_RUNS + "stock;", "drop", runs -> runs.drop(51));
            undoes(c, Matches.TWO_RUNS + "pile;", "drop behind the pile", runs -> runs.drop(51));
            undoes(c, Matches.TWO_RUNS + "stock;", "knock", runs -> runs.knock(51));
            undoes(c, Matches.leaving(46, 33) + "stock;", "knock of K 8", runs -> runs.knock(51));
            undoes(c, Matches.TWO_RUNS + "stock;knock 51;", "deal", WrapRuns::deal);
            undoes(c, Matches.TWO_RUNS, "set KNOCK", runs -> runs.set(false, 0));
            undoes(c, Matches.TWO_RUNS, "set TARGET", runs -> runs.set(true, 20));
            undoes(c, Matches.TWO_RUNS + "stock;knock 51;", "load", runs -> Texts.load(runs, "cards 8 9 1 33;stock;"));
            WrapRuns pile = Texts.begun(Matches.TWO_RUNS + "pile;");
            pile.drop(51);
            pile.undo();
            c.same("the card of the pile can't be dropped still", pile.drop(29), -105);
            WrapRuns last = Matches.twoRuns();
            Matches.empty(last);
            c.same("over", last.match(6), 1);
            last.undo();
            c.same("the drop of the last card is undone", last.match(6), 0);
            c.same("and it is held", last.player(0, 0), 8);
        });
        all.test("Terms 5", "except the text buffer, the report, the slots and what can be undone.", c -> {
            WrapRuns runs = Matches.twoRuns();
            runs.draw(false);
            Texts.put(runs, "seven..");
            runs.writeLaying(1);
            runs.keep(1);
            c.same("undo", runs.undo(), 1);
            c.same("the text stays", runs.match(16), 7);
            c.same("the report stays", Texts.report(runs), "Ah,2h,3h -4c,4d,7s,8s");
            c.same("what can be undone is less", runs.match(15), 1);
            c.same("the slot stays", runs.restore(1), 0);
            c.same("with the card drawn", runs.match(5), 1);
            Texts.load(runs, Matches.TWO_RUNS);
            Texts.put(runs, "cards");
            runs.undo();
            c.same("the text behind a load stays", runs.load(), -30 - (8 * 5 + 1));
        });
    }

    private interface Change {
        int make(WrapRuns runs);
    }

    private static void undoes(Check c, String text, String label, Change change) {
        WrapRuns runs = Texts.begun(text);
        String before = Matches.state(runs);
        int changes = runs.match(15);
        c.isTrue(label + " is not refused", change.make(runs) > -30);
        c.isTrue(label + " makes it different", !Matches.state(runs).equals(before));
        c.same("undo of " + label, runs.undo(), changes);
        c.same("state behind undo of " + label, Matches.state(runs), before);
    }

    private static void refused(Sentences all) {
        all.test("Terms 5", "A refused call returns the negative of its reason", c -> {
            WrapRuns runs = Matches.twoRuns();
            c.same("deal", runs.deal(), -7);
            c.same("drop", runs.drop(51), -100 - 4);
            c.same("knock", runs.knock(51), -1000 - 4);
            runs.draw(false);
            c.same("draw", runs.draw(false), -100 - 3);
        });
        all.test("Terms 5", "(the first that applies, in the order in which the method names them)", c -> {
            // Not drawn, and REST is above KNOCK: 4 is named ahead of 6.
            WrapRuns runs = Matches.twoRuns();
            runs.set(false, 0);
            c.same("4 and 6", runs.knock(0), -1004);
            // From the pile, and REST is above KNOCK: 5 is named ahead of 6.
            runs.draw(true);
            c.same("5 and 6", runs.knock(29), -1005);
            c.same("6 alone", runs.knock(51), -1006);
            // The round is over, nothing is drawn, and REST is above KNOCK: 2 is named ahead of 4 and 6.
            WrapRuns over = Matches.emptied(Matches.TWO_RUNS);
            over.set(false, 0);
            int card = over.card(over.match(4), 0);
            c.same("2 and 4", over.drop(card), -102);
            c.same("2, 4 and 6", over.knock(card), -1002);
            // The round is not over, and the score is TARGET: 7 is named ahead of 8.
            WrapRuns dealt = Texts.begun(Matches.ALL_LAID + "stock;knock 51;deal;");
            dealt.set(true, 45);
            c.same("7 and a score of TARGET", dealt.deal(), -7);
        });
        all.test("Terms 5", "and changes nothing", c -> {
            refuses(c, Matches.TWO_RUNS + "stock;knock 51;", "draw", runs -> runs.draw(false), -102);
            refuses(c, Matches.TWO_RUNS + "stock;knock 51;", "pile", runs -> runs.draw(true), -102);
            refuses(c, Matches.TWO_RUNS + "stock;knock 51;", "drop", runs -> runs.drop(0), -102);
            refuses(c, Matches.TWO_RUNS + "stock;knock 51;", "knock", runs -> runs.knock(0), -1002);
            refuses(c, Matches.TWO_RUNS + "stock;", "draw", runs -> runs.draw(false), -103);
            refuses(c, Matches.TWO_RUNS + "stock;", "pile", runs -> runs.draw(true), -103);
            refuses(c, Matches.TWO_RUNS, "drop", runs -> runs.drop(51), -104);
            refuses(c, Matches.TWO_RUNS, "knock", runs -> runs.knock(51), -1004);
            refuses(c, Matches.TWO_RUNS + "pile;", "drop", runs -> runs.drop(29), -105);
            refuses(c, Matches.TWO_RUNS + "pile;", "knock", runs -> runs.knock(29), -1005);
            refuses(c, Matches.TWO_RUNS + "stock;", "knock", runs -> runs.knock(0), -1006);
            refuses(c, Matches.TWO_RUNS + "stock;", "deal", WrapRuns::deal, -7);
            refuses(c, Matches.ALL_LAID.replace("10 100", "10 45") + "stock;knock 51;", "deal", WrapRuns::deal, -8);
        });
    }

    private static void refuses(Check c, String text, String label, Change change, int due) {
        WrapRuns runs = Texts.begun(text);
        Texts.put(runs, "text");
        runs.writeLaying(1);
        String before = Matches.all(runs);
        String lying = Matches.state(runs);
        c.same(label, change.make(runs), due);
        c.same("all behind " + label, Matches.all(runs), before);
        c.same("state behind " + label, Matches.state(runs), lying);
    }

    private static void reasons(Sentences all) {
        WrapRuns over = Texts.begun(Matches.TWO_RUNS + "stock;knock 51;");
        WrapRuns begun = Matches.twoRuns();
        WrapRuns drawn = Texts.begun(Matches.TWO_RUNS + "stock;");
        WrapRuns fromPile = Texts.begun(Matches.TWO_RUNS + "pile;");
        all.test("Terms 5", "2 the round is over", c -> {
            c.same("draw", over.draw(false), -102);
            c.same("draw from the pile", over.draw(true), -102);
            c.same("drop", over.drop(0), -102);
            c.same("knock", over.knock(0), -1002);
            c.same("ifKnock", over.ifKnock(0, 0), 2);
            WrapRuns empty = Matches.emptied(Matches.TWO_RUNS);
            c.same("draw, the stock is empty", empty.draw(false), -102);
            c.same("draw from the pile, the stock is empty", empty.draw(true), -102);
        });
        all.test("Terms 5", "3 a card was drawn already", c -> {
            c.same("stock and stock", drawn.draw(false), -103);
            c.same("stock and pile", drawn.draw(true), -103);
            c.same("pile and stock", fromPile.draw(false), -103);
            c.same("pile and pile, which is empty", fromPile.draw(true), -103);
        });
        all.test("Terms 5", "4 no card was drawn yet", c -> {
            c.same("drop", begun.drop(51), -104);
            c.same("knock", begun.knock(51), -1004);
            c.same("ifKnock", begun.ifKnock(51, 0), 4);
            WrapRuns next = Texts.begun(Matches.TWO_RUNS + "stock;drop 51;");
            c.same("drop of the other one", next.drop(3), -104);
            c.same("knock of the other one", next.knock(3), -1004);
        });
        all.test("Terms 5", "5 the card was drawn from the PILE in this turn", c -> {
            c.same("drop", fromPile.drop(29), -105);
            c.same("knock", fromPile.knock(29), -1005);
            c.same("ifKnock", fromPile.ifKnock(29, 0), 5);
            c.same("drawn from the stock", drawn.ifKnock(33, 0), 0);
        });
        all.test("Terms 5", "6 REST is above KNOCK", c -> {
            c.same("knock", drawn.knock(0), -1006);
            c.same("ifKnock", drawn.ifKnock(0, 0), 6);
            WrapRuns runs = Texts.begun(Matches.TWO_RUNS + "stock;");
            runs.set(false, 7);
            c.same("8 of 7", runs.knock(51), -1006);
            runs.set(false, 8);
            c.same("8 of 8", runs.ifKnock(51, 0), 0);
        });
        all.test("Terms 5", "7 the round is not over", c -> {
            c.same("begun", begun.deal(), -7);
            c.same("drawn", drawn.deal(), -7);
            c.same("dealt", Texts.begun(Matches.TWO_RUNS + "stock;knock 51;deal;").deal(), -7);
        });
        all.test("Terms 5", "8 the match is over.", c -> {
            WrapRuns runs = Texts.begun(Matches.ALL_LAID.replace("10 100", "10 45") + "stock;knock 51;");
            c.same("deal", runs.deal(), -8);
            c.same("45 of 45", runs.match(7), 1);
        });
    }

    private static void exceptions(Sentences all) {
        all.test("Terms 5", "An argument is out of range if its description does not allow it.", c -> {
            WrapRuns runs = new WrapRuns();
            for (int value : new int[] {-1, 2, Integer.MIN_VALUE, Integer.MAX_VALUE}) {
                c.outOfRange("keep " + value, () -> runs.keep(value));
                c.outOfRange("restore " + value, () -> runs.restore(value));
                c.outOfRange("player " + value, () -> runs.player(value, 0));
                c.outOfRange("card " + value, () -> runs.card(value, 0));
                c.outOfRange("meldOf " + value, () -> runs.meldOf(value, 0));
                c.outOfRange("meld " + value, () -> runs.meld(value, 0, 0));
                c.outOfRange("helping " + value, () -> runs.helping(value));
                c.outOfRange("laid " + value, () -> runs.laid(value));
                c.outOfRange("writeLaying " + value, () -> runs.writeLaying(value));
            }
            for (int value : new int[] {-1, 17, Integer.MIN_VALUE, Integer.MAX_VALUE}) {
                c.outOfRange("match " + value, () -> runs.match(value));
                c.outOfRange("player what " + value, () -> runs.player(0, value));
                c.outOfRange("meld what " + value, () -> runs.meld(0, 0, value));
                c.outOfRange("ifKnock what " + value, () -> runs.ifKnock(0, value));
                c.outOfRange("truncate " + value, () -> runs.truncate(value));
                c.outOfRange("set TARGET " + value, () -> runs.set(true, value));
            }
            for (int value : new int[] {-1, 52, Integer.MIN_VALUE, Integer.MAX_VALUE}) {
                c.outOfRange("where " + value, () -> runs.where(value));
                c.outOfRange("set KNOCK " + value, () -> runs.set(false, value));
            }
        });
        all.test("Terms 5", "If several exceptions apply, the one that is listed first is thrown", c -> {
            WrapRuns runs = new WrapRuns();
            c.outOfRange("restore 2, where nothing was kept", () -> runs.restore(2));
            c.outOfRange("meldOf of no player, no card", () -> runs.meldOf(2, 52));
            c.noSuchCard("ifKnock with no card, of no kind", () -> runs.ifKnock(25, 4));
            c.noSuchCard("ifKnock with no card, of kind -1", () -> runs.ifKnock(52, -1));
        });
        all.test("Terms 5", "exceptions come ahead of refusals.", c -> {
            WrapRuns begun = Matches.twoRuns();
            c.noSuchCard("drop, not drawn", () -> begun.drop(26));
            c.noSuchCard("knock, not drawn", () -> begun.knock(26));
            WrapRuns over = Texts.begun(Matches.TWO_RUNS + "stock;knock 51;");
            c.noSuchCard("drop, round over", () -> over.drop(51));
            c.noSuchCard("knock, round over", () -> over.knock(51));
        });
        all.test("Terms 5", "A call that throws changes nothing", c -> {
            WrapRuns runs = Texts.begun(Matches.TWO_RUNS + "stock;");
            Texts.put(runs, "text");
            runs.writeLaying(1);
            runs.keep(0);
            String before = Matches.all(runs);
            c.noSuchCard("drop", () -> runs.drop(26));
            c.noSuchCard("knock", () -> runs.knock(26));
            c.outOfRange("set KNOCK", () -> runs.set(false, 21));
            c.outOfRange("set TARGET", () -> runs.set(true, 19));
            c.outOfRange("keep", () -> runs.keep(2));
            c.outOfRange("restore", () -> runs.restore(2));
            c.throwsA("restore of nothing", IllegalStateException.class, () -> runs.restore(1));
            c.outOfRange("truncate", () -> runs.truncate(5));
            c.outOfRange("truncate", () -> runs.truncate(-1));
            c.outOfRange("writeLaying", () -> runs.writeLaying(2));
            c.noSuchCard("ifKnock", () -> runs.ifKnock(26, 0));
            c.noSuchCard("meldOf", () -> runs.meldOf(0, 26));
            c.same("all", Matches.all(runs), before);
            c.same("the slot", runs.restore(0), 0);
            c.same("the slot's card", runs.where(33), 0);
        });
        all.test("Terms 5", "(load() always empties the text buffer).", c -> {
            WrapRuns runs = new WrapRuns();
            Texts.put(runs, "cards 1 7 10 100;");
            runs.load();
            c.same("behind a text", runs.match(16), 0);
            Texts.put(runs, "cards 1 7 10 100;x");
            runs.load();
            c.same("behind an error", runs.match(16), 0);
            c.same("an empty one", runs.load(), -31);
            c.same("stays so", runs.match(16), 0);
        });
    }

    private static void constants(Sentences all) {
        all.test("Terms 5", "NONE = -1: There is no such thing.", c -> {
            c.same("NONE", WrapRuns.NONE, -1);
            c.same("no card", new WrapRuns().card(0, 7), -1);
        });
        all.test("Terms 5", "NO_ROOM = -20: There is no room for it.", c -> {
            c.same("NO_ROOM", WrapRuns.NO_ROOM, -20);
            WrapRuns runs = new WrapRuns();
            Texts.put(runs, " ".repeat(500));
            c.same("no room", runs.append(0, 0, 0, 0, 0), -20);
        });
    }
}
