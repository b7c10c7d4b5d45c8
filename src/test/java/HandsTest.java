import java.util.ArrayList;
import java.util.Collections;
import java.util.List;
import java.util.Random;

/** Compares THE LAYING of many hands that hold many melds (from a set seed) with that of the model. */
public final class HandsTest {
    private static final Check CHECK = new Check();
    private static final Random CHANCE = new Random(20);

    private HandsTest() {
    }

    public static void main(String[] args) {
        int most = args.length > 0 ? Integer.parseInt(args[0]) : 12000;
        for (int i = 0; i < most && !CHECK.isAnyWrong(); i++) {
            compare(text());
        }
        CHECK.end("HandsTest");
    }

    private static void compare(String text) {
        WrapRuns runs = Texts.begun(text);
        Model model = new Model();
        model.append(text);
        model.load();
        for (int player = 0; player < 2; player++) {
            CHECK.same(text + " length", runs.writeLaying(player), model.writeLaying(player));
            StringBuilder due = new StringBuilder();
            for (int i = 0; model.reportByte(i) != -1; i++) {
                due.append((char) model.reportByte(i));
            }
            CHECK.same(text + " player " + player, Texts.report(runs), due.toString());
            for (int what = 0; what <= 7; what++) {
                CHECK.same(text + " " + what, runs.player(player, what), model.player(player, what));
            }
        }
        CHECK.same(text + " needed", runs.needed(), model.needed());
        CHECK.same(text + " bestDrop", runs.bestDrop(), model.bestDrop());
        for (int what = 0; what <= 3; what++) {
            int card = model.card(0, CHANCE.nextInt(7));
            CHECK.same(text + " ifKnock " + card, runs.ifKnock(card, what), model.ifKnock(card, what));
        }
    }

    /** Some ranks in a row, around the end too, of some suits: the cards to which both hands are held. */
    private static String text() {
        int hands = 7 + CHANCE.nextInt(4);
        int suits = 2 + CHANCE.nextInt(3);
        int width = Math.min(13, (2 * hands + 2 + CHANCE.nextInt(8)) / suits + 1);
        int first = CHANCE.nextInt(13);
        List<Integer> cards = new ArrayList<>();
        for (int suit = 4 - suits; suit < 4; suit++) {
            for (int i = 0; i < width; i++) {
                cards.add(suit * 13 + (first + i) % 13);
            }
        }
        // Hands are richest when each gets whole parts: cards stay beside one another for the most part.
        if (CHANCE.nextInt(3) == 0) {
            Collections.shuffle(cards, CHANCE);
        } else {
            Collections.rotate(cards, CHANCE.nextInt(cards.size()));
            for (int i = CHANCE.nextInt(10); i > 0; i--) {
                Collections.swap(cards, CHANCE.nextInt(cards.size()), CHANCE.nextInt(cards.size()));
            }
            if (CHANCE.nextBoolean()) {
                cards.sort((a, b) -> a % 13 - b % 13);
                Collections.rotate(cards, CHANCE.nextInt(cards.size()));
            }
        }
        StringBuilder text = new StringBuilder("cards 1 " + hands + " 20 100;deck");
        for (int card : cards) {
            text.append(' ').append(card);
        }
        return text.append(CHANCE.nextInt(4) > 0 ? ";stock;" : ";").toString();
    }
}
