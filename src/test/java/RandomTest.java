import java.nio.charset.StandardCharsets;
import java.util.ArrayList;
import java.util.Collections;
import java.util.List;
import java.util.NoSuchElementException;
import java.util.Random;
import java.util.function.LongSupplier;

/** Plays calls by chance (from set seeds) on the class and on the model, and compares every answer. */
public final class RandomTest {
    private static final Check CHECK = new Check();

    private final Random chance;
    private final String label;
    private final WrapRuns runs = new WrapRuns();
    private final Model model = new Model();
    private final String alphabet = "cards deck stock pile drop knock deal ;;;0123456789\n";

    private RandomTest(int seed) {
        chance = new Random(seed);
        label = "seed " + seed + ": ";
    }

    public static void main(String[] args) {
        int seeds = args.length > 0 ? Integer.parseInt(args[0]) : 250;
        for (int seed = 1; seed <= seeds && !CHECK.isAnyWrong(); seed++) {
            RandomTest test = new RandomTest(seed);
            for (int call = 0; call < 300 && !CHECK.isAnyWrong(); call++) {
                test.callOne();
            }
        }
        CHECK.end("RandomTest");
    }

    private static String answer(LongSupplier call) {
        try {
            return Long.toString(call.getAsLong());
        } catch (IllegalArgumentException | IllegalStateException | NoSuchElementException e) {
            return e.getClass().getSimpleName();
        }
    }

    private void same(String call, LongSupplier got, LongSupplier due) {
        CHECK.same(label + call, answer(got), answer(due));
    }

    private int below(int bound) {
        return chance.nextInt(bound);
    }

    private void callOne() {
        int which = below(100);
        if (which < 45) {
            playOne();
        } else if (which < 53) {
            changeOne();
        } else if (which < 57) {
            textOne();
        } else {
            askOne();
        }
        for (int what = -1; what <= 17; what++) {
            int asked = what;
            same("match " + what, () -> runs.match(asked), () -> model.match(asked));
        }
        same("number", runs::number, model::number);
        same("gap", runs::gap, () -> 0);
    }

    /** A card that is mostly one of the player to move. */
    private int someCard() {
        if (below(12) == 0) {
            return below(56) - 2;
        }
        return model.card(model.match(4), below(model.match(0) + 1));
    }

    private void playOne() {
        boolean isOver = model.match(6) == 1;
        boolean isDrawn = model.match(5) == 1;
        int odd = below(10);
        if (isOver && odd > 0) {
            same("deal", runs::deal, () -> model.change("deal", -1, 0));
        } else if (!isDrawn && odd > 0) {
            draw();
        } else if (odd < 2) {
            draw();
            same("deal", runs::deal, () -> model.change("deal", -1, 0));
        } else {
            int best = below(4) == 0 ? someCard() : model.bestDrop();
            int card = best == -1 ? someCard() : best;
            if (below(3) > 0) {
                same("knock " + card, () -> runs.knock(card), () -> model.change("knock", card, -1000));
            }
            same("drop " + card, () -> runs.drop(card), () -> model.change("drop", card, -100));
        }
    }

    private void draw() {
        boolean isPile = below(3) == 0;
        same("draw " + isPile, () -> runs.draw(isPile),
                () -> model.change(isPile ? "pile" : "stock", -1, -100));
    }

    private void changeOne() {
        int slot = below(8) == 0 ? below(9) - 4 : below(2);
        boolean isTarget = chance.nextBoolean();
        int value = isTarget ? below(below(2) == 0 ? 60 : 520) : below(23) - 1;
        switch (below(5)) {
            case 0:
                for (int i = below(12); i >= 0; i--) {
                    same("undo", runs::undo, model::undo);
                }
                break;
            case 1:
                same("keep " + slot, () -> runs.keep(slot), () -> model.keep(slot));
                break;
            case 2:
                same("restore " + slot, () -> runs.restore(slot), () -> model.restore(slot));
                break;
            default:
                same("set " + isTarget + value, () -> runs.set(isTarget, value), () -> model.set(isTarget, value));
                break;
        }
    }

    private void textOne() {
        String text = below(3) == 0 ? spoiled(someText()) : someText();
        Texts.put(runs, text.length() > 480 ? text.substring(0, 480) : text);
        model.append(text.length() > 480 ? text.substring(0, 480) : text);
        if (below(6) == 0) {
            int length = below(model.text().length() + 3) - 1;
            same("truncate " + length, () -> runs.truncate(length), () -> model.truncate(length));
        }
        String whole = model.text();
        same("load " + whole, runs::load, model::load);
    }

    private String blanks() {
        String[] some = {" ", " ", " ", "  ", "\n", " \n "};
        return some[below(some.length)];
    }

    private String gap() {
        return below(3) == 0 ? blanks() : "";
    }

    /** A text whose first part is well-formed, with hands that hold many melds. */
    private String someText() {
        StringBuilder text = new StringBuilder(gap() + "cards" + gap());
        int hands = 7 + below(4);
        text.append(below(4) == 0 ? 999999999 - below(3) : below(1000)).append(blanks()).append(hands);
        text.append(blanks()).append(below(21)).append(blanks()).append(20 + below(4) * below(160)).append(gap());
        text.append(';').append(gap());
        if (below(5) > 0) {
            text.append("deck");
            int most = below(4) == 0 ? below(12) + 1 : 2 * hands + 1 + below(6);
            List<Integer> cards = closeCards();
            for (int i = 0; i < most; i++) {
                text.append(i == 0 ? gap() : blanks()).append(cards.get(i));
            }
            text.append(gap()).append(';');
        }
        if (below(2) == 0) {
            moves(text);
        }
        return text.toString() + gap();
    }

    /** All cards, those of few ranks or of few suits or of one part of the circle ahead. */
    private List<Integer> closeCards() {
        List<Integer> ahead = new ArrayList<>();
        List<Integer> behind = new ArrayList<>();
        int manner = below(4);
        int turn = below(13);
        int width = 3 + below(8);
        for (int card = 0; card < 52; card++) {
            boolean isClose = (card % 13 + turn) % 13 < width;
            boolean isAhead = manner == 0 ? isClose : manner == 1 ? card / 13 < 2
                    : manner == 2 ? isClose && card / 13 > 0 : below(2) == 0;
            (isAhead ? ahead : behind).add(card);
        }
        Collections.shuffle(ahead, chance);
        Collections.shuffle(behind, chance);
        if (manner != 3 && below(2) == 0) {
            ahead.addAll(ahead.size() / 2, behind.subList(0, Math.min(6, behind.size())));
            behind.subList(0, Math.min(6, behind.size())).clear();
        }
        ahead.addAll(behind);
        return ahead;
    }

    /** Moves that a copy of the model plays; the last of them may be refused. */
    private void moves(StringBuilder text) {
        Model copy = new Model();
        copy.append(text.toString());
        if (copy.load() < 0) {
            return;
        }
        int most = below(14);
        for (int i = 0; i < most && text.length() < 440; i++) {
            String move;
            if (copy.match(6) == 1) {
                move = "deal";
                copy.change(move, -1, 0);
            } else if (copy.match(5) == 0) {
                move = below(3) == 0 ? "pile" : "stock";
                copy.change(move, -1, 0);
            } else {
                int card = copy.bestDrop();
                move = copy.ifKnock(card, 0) == 0 && below(2) == 0 ? "knock" : "drop";
                copy.change(move, card, 0);
                move += gap() + card;
            }
            text.append(gap()).append(move).append(gap()).append(';');
        }
        if (below(4) == 0) {
            String[] some = {"deal;", "stock;", "pile ;", "drop " + below(54) + " ;", "knock" + below(53) + ";", "deck 1;"};
            text.append(some[below(some.length)]);
        }
    }

    private String spoiled(String text) {
        StringBuilder signs = new StringBuilder(text);
        for (int i = below(3); i >= 0 && signs.length() > 0; i--) {
            int place = below(signs.length());
            char sign = below(5) == 0 ? (char) below(256) : alphabet.charAt(below(alphabet.length()));
            switch (below(3)) {
                case 0: signs.deleteCharAt(place); break;
                case 1: signs.insert(place, sign); break;
                default: signs.setCharAt(place, sign); break;
            }
        }
        return signs.toString();
    }

    private void askOne() {
        int player = below(15) == 0 ? below(5) - 2 : below(2);
        int place = below(14) - 1;
        int what = below(10) - 1;
        int card = below(2) == 0 ? someCard() : below(56) - 2;
        switch (below(10)) {
            case 0:
                same("player " + player + what, () -> runs.player(player, what), () -> model.player(player, what));
                same("card " + player + place, () -> runs.card(player, place), () -> model.card(player, place));
                same("where " + card, () -> runs.where(card), () -> model.where(card));
                break;
            case 1:
                same("meldOf " + card, () -> runs.meldOf(player, card), () -> model.meldOf(player, card));
                break;
            case 2:
                int meld = below(6) - 1;
                int part = below(6) - 1;
                same("meld " + player + meld + part, () -> runs.meld(player, meld, part), () -> model.meld(player, meld, part));
                break;
            case 3:
                same("restWithout " + card, () -> runs.restWithout(card), () -> model.restWithout(card));
                break;
            case 4:
                same("bestDrop", runs::bestDrop, model::bestDrop);
                same("needed", runs::needed, model::needed);
                same("restByPile", runs::restByPile, model::restByPile);
                break;
            case 5:
                if (below(3) == 0) {
                    same("helping " + player, () -> runs.helping(player), () -> model.helping(player));
                }
                break;
            case 6:
                int asked = below(6) - 1;
                same("ifKnock " + card + asked, () -> runs.ifKnock(card, asked), () -> model.ifKnock(card, asked));
                break;
            case 7:
                askKind();
                break;
            case 8:
                CHECK.sameBits(label + "meanRest", runs.meanRest(), model.meanRest());
                same("laid " + player, () -> Float.floatToRawIntBits(runs.laid(player)),
                        () -> Float.floatToRawIntBits(model.laid(player)));
                break;
            default:
                same("writeLaying " + player, () -> runs.writeLaying(player), () -> model.writeLaying(player));
                for (int i = -1; i < 45; i++) {
                    int index = i;
                    same("reportByte " + index, () -> runs.reportByte(index), () -> model.reportByte(index));
                }
                break;
        }
    }

    private void askKind() {
        int shift = below(4) * 13;
        int length = below(14);
        long ranks = 0;
        int first = below(13);
        for (int i = 0; i < length; i++) {
            ranks |= 1L << (first + i) % 13;
        }
        long same = chance.nextInt(16);
        long set = 0;
        for (int suit = 0; suit < 4; suit++) {
            set |= (same >> suit & 1) << first + 13 * suit;
        }
        long cards = below(2) == 0 ? ranks << shift : set;
        if (below(3) == 0) {
            cards ^= 1L << below(54);
        }
        long suits = below(20) == 0 ? chance.nextLong() : cards;
        same("kind " + suits, () -> runs.kind(suits), () -> model.kind(suits));
    }

    static {
        // The signs of a text are bytes; a test that runs under another charset must not change them.
        CHECK.isTrue("bytes", "\u00ff".getBytes(StandardCharsets.ISO_8859_1).length == 1);
    }
}
