import java.util.ArrayList;
import java.util.Arrays;
import java.util.LinkedList;
import java.util.List;
import java.util.NoSuchElementException;
import java.util.TreeSet;
import java.util.regex.Matcher;
import java.util.regex.Pattern;

/** The whole document once more, by lists and sets, for calls that nobody has worked out by hand. */
final class Model {
    private static final class State {
        int hands;
        int knock;
        int target;
        long number;
        int round;
        int mover;
        int drawn = -1;
        boolean isFromPile;
        boolean isOver;
        int points;
        int winner = -1;
        int[] scores = new int[2];
        List<TreeSet<Integer>> held = new ArrayList<>(Arrays.asList(new TreeSet<>(), new TreeSet<>()));
        LinkedList<Integer> stock = new LinkedList<>();
        LinkedList<Integer> pile = new LinkedList<>();

        State copy() {
            State copy = new State();
            copy.hands = hands;
            copy.knock = knock;
            copy.target = target;
            copy.number = number;
            copy.round = round;
            copy.mover = mover;
            copy.drawn = drawn;
            copy.isFromPile = isFromPile;
            copy.isOver = isOver;
            copy.points = points;
            copy.winner = winner;
            copy.scores = scores.clone();
            copy.held = new ArrayList<>();
            copy.held.add(new TreeSet<>(held.get(0)));
            copy.held.add(new TreeSet<>(held.get(1)));
            copy.stock = new LinkedList<>(stock);
            copy.pile = new LinkedList<>(pile);
            return copy;
        }

        TreeSet<Integer> mine() {
            return held.get(mover);
        }

        void deal(List<Integer> first) {
            List<Integer> cards = new ArrayList<>();
            for (int i = 0; i < 52; i++) {
                cards.add(i);
            }
            for (int k = 51; k >= 1; k--) {
                number = (number * 1103515245L + 12345L) % 2147483648L;
                int other = (int) ((number / 65536) % (k + 1));
                int card = cards.get(k);
                cards.set(k, cards.get(other));
                cards.set(other, card);
            }
            cards.removeAll(first);
            cards.addAll(0, first);
            held.set(0, new TreeSet<>(cards.subList(0, hands)));
            held.set(1, new TreeSet<>(cards.subList(hands, 2 * hands)));
            pile = new LinkedList<>(cards.subList(2 * hands, 2 * hands + 1));
            stock = new LinkedList<>(cards.subList(2 * hands + 1, 52));
            mover = round % 2;
            drawn = -1;
            isFromPile = false;
            isOver = false;
        }

        boolean isMatchOver() {
            return isOver && (scores[0] >= target || scores[1] >= target);
        }

        int against(String move, int card) {
            if (move.equals("deal")) {
                return !isOver ? 7 : isMatchOver() ? 8 : 0;
            }
            if (isOver) {
                return 2;
            }
            if (move.equals("stock") || move.equals("pile")) {
                return drawn != -1 ? 3 : 0;
            }
            if (drawn == -1) {
                return 4;
            }
            if (isFromPile && drawn == card) {
                return 5;
            }
            return move.equals("knock") && Layings.restWithout(mine(), card) > knock ? 6 : 0;
        }

        int play(String move, int card) {
            switch (move) {
                case "deal":
                    round++;
                    deal(new ArrayList<>());
                    return round;
                case "stock":
                case "pile":
                    isFromPile = move.equals("pile");
                    drawn = isFromPile ? pile.removeLast() : stock.removeFirst();
                    mine().add(drawn);
                    return drawn;
                case "drop":
                    lay(card);
                    if (stock.isEmpty()) {
                        isOver = true;
                        points = 0;
                        winner = -1;
                    } else {
                        mover = 1 - mover;
                    }
                    return stock.size();
                default:
                    int gain = knockPoints(card);
                    lay(card);
                    isOver = true;
                    points = Math.abs(gain);
                    winner = gain > 0 ? mover : 1 - mover;
                    scores[winner] += points;
                    return gain;
            }
        }

        private void lay(int card) {
            mine().remove(card);
            pile.addLast(card);
            drawn = -1;
            isFromPile = false;
        }

        /** K, O, and how many cards are added. */
        int[] showdown(int card) {
            TreeSet<Integer> hand = new TreeSet<>(mine());
            hand.remove(card);
            List<TreeSet<Integer>> melds = new ArrayList<>();
            for (TreeSet<Integer> meld : Layings.of(hand)) {
                melds.add(new TreeSet<>(meld));
            }
            int own = Layings.rest(hand);
            TreeSet<Integer> left = Layings.left(held.get(1 - mover));
            int added = 0;
            boolean isGoingOn = own > 0;
            while (isGoingOn) {
                isGoingOn = false;
                for (int other : new TreeSet<>(left)) {
                    if (addTo(melds, other)) {
                        left.remove(other);
                        added++;
                        isGoingOn = true;
                        break;
                    }
                }
            }
            return new int[] {own, Layings.points(left), added};
        }

        private static boolean addTo(List<TreeSet<Integer>> melds, int card) {
            for (TreeSet<Integer> meld : melds) {
                boolean takes;
                if (Layings.isSet(meld)) {
                    takes = meld.size() == 3 && card % 13 == meld.first() % 13;
                } else {
                    int first = Layings.runFrom(meld);
                    int ahead = (first % 13 + 12) % 13;
                    int behind = (first % 13 + meld.size()) % 13;
                    takes = meld.size() < 13 && card / 13 == first / 13
                            && (card % 13 == ahead || card % 13 == behind);
                }
                if (takes) {
                    meld.add(card);
                    return true;
                }
            }
            return false;
        }

        private int knockPoints(int card) {
            int[] result = showdown(card);
            if (result[0] == 0) {
                return result[1] + 20;
            }
            return result[0] < result[1] ? result[1] - result[0] : -(result[0] - result[1] + 10);
        }
    }

    private static final class TextError extends RuntimeException {
        private static final long serialVersionUID = 1L;
        final int code;

        TextError(int position, int code) {
            super("at " + position);
            this.code = 8 * position + code;
        }
    }

    private static final class Parser {
        private static final Pattern TOKEN = Pattern.compile("[ \\n]*+([a-z]++|[0-9]++|;|[^ \\n]|$)", Pattern.DOTALL);
        private final Matcher matcher;
        private final String text;
        private String token = "";
        private int start;

        Parser(String text) {
            this.text = text;
            matcher = TOKEN.matcher(text);
        }

        void next() {
            if (matcher.find()) {
                token = matcher.group(1);
                start = matcher.start(1);
            } else {
                token = "";
                start = text.length();
            }
        }

        TextError error(int code) {
            return new TextError(start, code);
        }

        void word(String... words) {
            next();
            if (!Arrays.asList(words).contains(token)) {
                throw error(1);
            }
        }

        int number(int least, int most) {
            if (!token.matches("[0-9]{1,9}")) {
                throw error(1);
            }
            int value = Integer.parseInt(token);
            if (value < least || value > most) {
                throw error(2);
            }
            return value;
        }

        int nextNumber(int least, int most) {
            next();
            return number(least, most);
        }

        State parse() {
            State state = new State();
            word("cards");
            state.number = nextNumber(0, 999999999);
            state.hands = nextNumber(7, 10);
            state.knock = nextNumber(0, 20);
            state.target = nextNumber(20, 500);
            word(";");
            next();
            List<Integer> first = new ArrayList<>();
            if (token.equals("deck")) {
                do {
                    if (first.isEmpty()) {
                        next();
                    }
                    int card = number(0, 51);
                    if (first.contains(card)) {
                        throw error(3);
                    }
                    first.add(card);
                    next();
                } while (!token.equals(";"));
                next();
            }
            state.deal(first);
            while (!token.isEmpty()) {
                move(state);
                next();
            }
            return state;
        }

        private void move(State state) {
            String move = token;
            int card = -1;
            if (move.equals("drop") || move.equals("knock")) {
                card = nextNumber(0, 51);
                if (!state.mine().contains(card)) {
                    throw error(3);
                }
            } else if (!Arrays.asList("stock", "pile", "deal").contains(move)) {
                throw error(1);
            }
            word(";");
            if (state.against(move, card) != 0) {
                throw error(4);
            }
            state.play(move, card);
        }
    }

    private State now;
    private final LinkedList<State> past = new LinkedList<>();
    private final State[] slots = new State[2];
    private String text = "";
    private String report = "";

    Model() {
        now = new Parser("cards 1 7 10 100; deck 12 0 1 26 39 13 45 25 11 24 2 3 4 30;").parse();
    }

    private void remember() {
        past.addLast(now.copy());
        if (past.size() > 10) {
            past.removeFirst();
        }
    }

    private static void require(boolean isAllowed) {
        if (!isAllowed) {
            throw new IllegalArgumentException();
        }
    }

    private TreeSet<Integer> hand(int player) {
        require(player == 0 || player == 1);
        return now.held.get(player);
    }

    private static void requireHeld(TreeSet<Integer> hand, int card) {
        if (!hand.contains(card)) {
            throw new NoSuchElementException();
        }
    }

    String text() {
        return text;
    }

    void append(String more) {
        text += more;
    }

    int load() {
        String whole = text;
        text = "";
        try {
            State begun = new Parser(whole).parse();
            remember();
            now = begun;
            return now.hands;
        } catch (TextError e) {
            return -30 - e.code;
        }
    }

    int change(String move, int card, int base) {
        if (move.equals("drop") || move.equals("knock")) {
            requireHeld(now.mine(), card);
        }
        int reason = now.against(move, card);
        if (reason != 0) {
            return base - reason;
        }
        remember();
        return now.play(move, card);
    }

    int set(boolean isTarget, int value) {
        require(isTarget ? value >= 20 && value <= 500 : value >= 0 && value <= 20);
        remember();
        int before = isTarget ? now.target : now.knock;
        if (isTarget) {
            now.target = value;
        } else {
            now.knock = value;
        }
        return before;
    }

    int undo() {
        if (past.isEmpty()) {
            return -1;
        }
        now = past.removeLast();
        return past.size();
    }

    int keep(int slot) {
        require(slot == 0 || slot == 1);
        slots[slot] = now.copy();
        return now.round;
    }

    int restore(int slot) {
        require(slot == 0 || slot == 1);
        if (slots[slot] == null) {
            throw new IllegalStateException();
        }
        now = slots[slot].copy();
        past.clear();
        return now.round;
    }

    int truncate(int length) {
        require(length >= 0 && length <= text.length());
        text = text.substring(0, length);
        return length;
    }

    int match(int what) {
        require(what >= 0 && what <= 16);
        int[] all = {now.hands, now.knock, now.target, now.round, now.mover, now.drawn != -1 ? 1 : 0,
            now.isOver ? 1 : 0, now.isMatchOver() ? 1 : 0, now.stock.size(), now.pile.size(),
            now.pile.isEmpty() ? -1 : now.pile.getLast(), now.scores[0], now.scores[1], now.points,
            now.winner, past.size(), text.length()};
        return all[what];
    }

    long number() {
        return now.number;
    }

    int player(int player, int what) {
        TreeSet<Integer> hand = hand(player);
        require(what >= 0 && what <= 7);
        int sets = 0;
        int runs = 0;
        int wraps = 0;
        for (TreeSet<Integer> meld : Layings.of(hand)) {
            if (Layings.isSet(meld)) {
                sets++;
            } else {
                runs++;
                int first = Layings.runFrom(meld) % 13;
                wraps += first + meld.size() > 13 ? 1 : 0;
            }
        }
        int[] all = {hand.size(), Layings.rest(hand), sets + runs, Layings.left(hand).size(), sets, runs,
            Layings.points(hand), wraps};
        return all[what];
    }

    int card(int player, int place) {
        List<Integer> cards = new ArrayList<>(hand(player));
        return place >= 0 && place < cards.size() ? cards.get(place) : -1;
    }

    int where(int card) {
        require(card >= 0 && card <= 51);
        for (int player = 0; player < 2; player++) {
            if (now.held.get(player).contains(card)) {
                return player;
            }
        }
        return now.pile.contains(card) ? 2 : 3;
    }

    int meldOf(int player, int card) {
        TreeSet<Integer> hand = hand(player);
        requireHeld(hand, card);
        List<TreeSet<Integer>> melds = Layings.of(hand);
        for (int i = 0; i < melds.size(); i++) {
            if (melds.get(i).contains(card)) {
                return i;
            }
        }
        return -1;
    }

    int meld(int player, int meld, int what) {
        List<TreeSet<Integer>> melds = Layings.of(hand(player));
        require(what >= 0 && what <= 3);
        if (meld < 0 || meld >= melds.size()) {
            return -1;
        }
        TreeSet<Integer> cards = melds.get(meld);
        boolean isSet = Layings.isSet(cards);
        int[] all = {cards.size(), isSet ? 0 : 1, isSet ? cards.first() % 13 : Layings.runFrom(cards),
            Layings.points(cards)};
        return all[what];
    }

    int restWithout(int card) {
        requireHeld(now.mine(), card);
        return Layings.restWithout(now.mine(), card);
    }

    int bestDrop() {
        if (now.drawn == -1 || now.isOver) {
            return -1;
        }
        int locked = now.isFromPile ? now.drawn : -1;
        List<int[]> choices = new ArrayList<>();
        for (int card : now.mine()) {
            if (card != locked) {
                choices.add(new int[] {Layings.restWithout(now.mine(), card), -Layings.points(card), card});
            }
        }
        choices.sort(Arrays::compare);
        return choices.get(0)[2];
    }

    int restByPile() {
        if (now.drawn != -1 || now.isOver || now.pile.isEmpty()) {
            return -1;
        }
        TreeSet<Integer> hand = new TreeSet<>(now.mine());
        hand.add(now.pile.getLast());
        return Layings.restBehindDrop(hand, now.pile.getLast());
    }

    int helping(int player) {
        TreeSet<Integer> hand = hand(player);
        if (hand.size() != now.hands) {
            return -1;
        }
        int count = 0;
        for (int card = 0; card < 52; card++) {
            if (!hand.contains(card)) {
                TreeSet<Integer> more = new TreeSet<>(hand);
                more.add(card);
                count += Layings.restBehindDrop(more, card) < Layings.rest(hand) ? 1 : 0;
            }
        }
        return count;
    }

    int ifKnock(int card, int what) {
        requireHeld(now.mine(), card);
        require(what >= 0 && what <= 3);
        if (what == 0) {
            return now.against("knock", card);
        }
        return now.drawn == -1 || now.isOver ? -1 : now.showdown(card)[what - 1];
    }

    int needed() {
        if (now.drawn == -1 || now.isOver) {
            return -1;
        }
        return Layings.restBehindDrop(now.mine(), now.isFromPile ? now.drawn : -1);
    }

    int kind(long suits) {
        require(suits >= 0 && suits < 4503599627370496L);
        TreeSet<Integer> cards = new TreeSet<>();
        for (int card = 0; card < 52; card++) {
            if ((suits >> card & 1) == 1) {
                cards.add(card);
            }
        }
        return Layings.isSet(cards) ? 1 : Layings.isRun(cards) ? 2 : 0;
    }

    double meanRest() {
        return (double) (Layings.rest(now.held.get(0)) + Layings.rest(now.held.get(1))) / 2.0;
    }

    float laid(int player) {
        TreeSet<Integer> hand = hand(player);
        return (float) (hand.size() - Layings.left(hand).size()) / (float) hand.size();
    }

    int writeLaying(int player) {
        TreeSet<Integer> hand = hand(player);
        List<String> parts = new ArrayList<>();
        for (TreeSet<Integer> meld : Layings.of(hand)) {
            List<String> names = new ArrayList<>();
            int first = Layings.runFrom(meld);
            for (int i = 0; i < meld.size() && !Layings.isSet(meld); i++) {
                names.add(name(first / 13 * 13 + (first + i) % 13));
            }
            if (Layings.isSet(meld)) {
                meld.forEach(card -> names.add(name(card)));
            }
            parts.add(String.join(",", names));
        }
        List<String> names = new ArrayList<>();
        Layings.left(hand).forEach(card -> names.add(name(card)));
        if (!names.isEmpty()) {
            parts.add("-" + String.join(",", names));
        }
        report = String.join(" ", parts);
        return report.length();
    }

    private static String name(int card) {
        return "" + "A23456789TJQK".charAt(card % 13) + "cdhs".charAt(card / 13);
    }

    int reportByte(int index) {
        return index >= 0 && index < report.length() ? report.charAt(index) : -1;
    }
}
