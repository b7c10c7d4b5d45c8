import java.util.ArrayList;
import java.util.Collections;
import java.util.HashMap;
import java.util.List;
import java.util.Map;
import java.util.TreeSet;

/**
 * THE LAYING as the document's words tell it, with nothing saved: all layings are made, those with
 * the least REST are kept, and card by card only those that go ahead.
 */
final class Layings {
    private static final List<TreeSet<Integer>> MELDS = allMelds();
    private static final Map<TreeSet<Integer>, List<TreeSet<Integer>>> KNOWN = new HashMap<>();

    private Layings() {
    }

    static int points(int card) {
        int points = card % 13 + 1;
        return points > 10 ? 10 : points;
    }

    static int points(Iterable<Integer> cards) {
        int sum = 0;
        for (int card : cards) {
            sum += points(card);
        }
        return sum;
    }

    static boolean isSet(TreeSet<Integer> cards) {
        TreeSet<Integer> ranks = new TreeSet<>();
        for (int card : cards) {
            ranks.add(card % 13);
        }
        return ranks.size() == 1 && cards.size() >= 3;
    }

    static boolean isRun(TreeSet<Integer> cards) {
        return cards.size() >= 3 && runFrom(cards) != -1;
    }

    /** The card with which these cards are a run, by trying each; -1 if there is none. */
    static int runFrom(TreeSet<Integer> cards) {
        if (cards.isEmpty()) {
            return -1;
        }
        int suit = cards.first() / 13;
        for (int first = 0; first < 13; first++) {
            TreeSet<Integer> run = new TreeSet<>();
            for (int i = 0; i < cards.size(); i++) {
                run.add(suit * 13 + (first + i) % 13);
            }
            if (run.equals(cards)) {
                return suit * 13 + first;
            }
        }
        return -1;
    }

    private static List<TreeSet<Integer>> allMelds() {
        List<TreeSet<Integer>> melds = new ArrayList<>();
        for (int rank = 0; rank < 13; rank++) {
            for (int suits = 0; suits < 16; suits++) {
                TreeSet<Integer> set = new TreeSet<>();
                for (int suit = 0; suit < 4; suit++) {
                    if ((suits >> suit & 1) == 1) {
                        set.add(suit * 13 + rank);
                    }
                }
                if (set.size() >= 3) {
                    melds.add(set);
                }
            }
        }
        for (int first = 0; first < 52; first++) {
            for (int size = 3; size <= 12; size++) {
                TreeSet<Integer> run = new TreeSet<>();
                for (int i = 0; i < size; i++) {
                    run.add(first / 13 * 13 + (first + i) % 13);
                }
                // (first + i) % 13 counts within the suit, as each suit has 13 cards.
                melds.add(run);
            }
        }
        return melds;
    }

    static List<TreeSet<Integer>> of(TreeSet<Integer> hand) {
        List<TreeSet<Integer>> known = KNOWN.get(hand);
        if (known == null) {
            known = find(hand);
            if (KNOWN.size() > 200000) {
                KNOWN.clear();
            }
            KNOWN.put(new TreeSet<>(hand), known);
        }
        return known;
    }

    static TreeSet<Integer> left(TreeSet<Integer> hand) {
        TreeSet<Integer> left = new TreeSet<>(hand);
        for (TreeSet<Integer> meld : of(hand)) {
            left.removeAll(meld);
        }
        return left;
    }

    static int rest(TreeSet<Integer> hand) {
        return points(left(hand));
    }

    static int restWithout(TreeSet<Integer> hand, int card) {
        TreeSet<Integer> others = new TreeSet<>(hand);
        others.remove(card);
        return rest(others);
    }

    /** The least REST of the hand without one of its cards, but not without the locked one. */
    static int restBehindDrop(TreeSet<Integer> hand, int locked) {
        int least = Integer.MAX_VALUE;
        for (int card : hand) {
            if (card != locked) {
                least = Math.min(least, restWithout(hand, card));
            }
        }
        return least;
    }

    private static List<TreeSet<Integer>> find(TreeSet<Integer> hand) {
        List<TreeSet<Integer>> melds = new ArrayList<>();
        for (TreeSet<Integer> meld : MELDS) {
            if (hand.containsAll(meld)) {
                melds.add(meld);
            }
        }
        List<List<TreeSet<Integer>>> all = new ArrayList<>();
        gather(melds, 0, hand, new ArrayList<>(), all);
        List<List<TreeSet<Integer>>> best = withLeastRest(hand, all);
        List<TreeSet<Integer>> found = new ArrayList<>();
        TreeSet<Integer> inMeld = new TreeSet<>();
        for (int card : hand) {
            if (inMeld.contains(card)) {
                continue;
            }
            TreeSet<Integer> ahead = aheadFor(card, best);
            best = alike(card, ahead, best);
            if (ahead != null) {
                found.add(ahead);
                inMeld.addAll(ahead);
            }
        }
        return found;
    }

    private static void gather(List<TreeSet<Integer>> melds, int from, TreeSet<Integer> free,
            List<TreeSet<Integer>> chosen, List<List<TreeSet<Integer>>> all) {
        all.add(new ArrayList<>(chosen));
        for (int i = from; i < melds.size(); i++) {
            if (free.containsAll(melds.get(i))) {
                TreeSet<Integer> fewer = new TreeSet<>(free);
                fewer.removeAll(melds.get(i));
                chosen.add(melds.get(i));
                gather(melds, i + 1, fewer, chosen, all);
                chosen.remove(chosen.size() - 1);
            }
        }
    }

    private static List<List<TreeSet<Integer>>> withLeastRest(TreeSet<Integer> hand,
            List<List<TreeSet<Integer>>> all) {
        int least = Integer.MAX_VALUE;
        List<List<TreeSet<Integer>>> best = new ArrayList<>();
        for (List<TreeSet<Integer>> laying : all) {
            TreeSet<Integer> left = new TreeSet<>(hand);
            for (TreeSet<Integer> meld : laying) {
                left.removeAll(meld);
            }
            int rest = points(left);
            if (rest < least) {
                least = rest;
                best.clear();
            }
            if (rest == least) {
                best.add(laying);
            }
        }
        return best;
    }

    private static TreeSet<Integer> meldWith(int card, List<TreeSet<Integer>> laying) {
        for (TreeSet<Integer> meld : laying) {
            if (meld.contains(card)) {
                return meld;
            }
        }
        return null;
    }

    private static TreeSet<Integer> aheadFor(int card, List<List<TreeSet<Integer>>> layings) {
        TreeSet<Integer> ahead = null;
        for (List<TreeSet<Integer>> laying : layings) {
            TreeSet<Integer> meld = meldWith(card, laying);
            if (meld != null && (ahead == null || goesAhead(meld, ahead))) {
                ahead = meld;
            }
        }
        return ahead;
    }

    private static boolean goesAhead(TreeSet<Integer> a, TreeSet<Integer> b) {
        if (a.size() != b.size()) {
            return a.size() < b.size();
        }
        if (isSet(a) != isSet(b)) {
            return isSet(a);
        }
        TreeSet<Integer> onlyA = new TreeSet<>(a);
        onlyA.removeAll(b);
        TreeSet<Integer> onlyB = new TreeSet<>(b);
        onlyB.removeAll(a);
        return !onlyA.isEmpty() && !onlyB.isEmpty() && Collections.min(onlyA) < Collections.min(onlyB);
    }

    private static List<List<TreeSet<Integer>>> alike(int card, TreeSet<Integer> meld,
            List<List<TreeSet<Integer>>> layings) {
        List<List<TreeSet<Integer>>> alike = new ArrayList<>();
        for (List<TreeSet<Integer>> laying : layings) {
            TreeSet<Integer> other = meldWith(card, laying);
            if (meld == null ? other == null : meld.equals(other)) {
                alike.add(laying);
            }
        }
        return alike;
    }
}
