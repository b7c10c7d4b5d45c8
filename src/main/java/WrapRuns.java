import java.util.NoSuchElementException;

/**
 * A card game of two players in which runs wrap from the last rank to the first.
 *
 * <p>Sets of cards are longs throughout: the bit c stands for the card c.
 */
public final class WrapRuns {
    /** There is no such thing. */
    public static final int NONE = -1;
    /** There is no room for it. */
    public static final int NO_ROOM = -20;

    private static final int CARDS = 52;
    private static final int RANKS = 13;
    private static final int SUITS = 4;
    private static final int PLAYERS = 2;
    private static final long ALL_CARDS = (1L << CARDS) - 1;
    private static final long ONE_SUIT = (1L << RANKS) - 1;
    private static final long ONE_RANK = 1L | 1L << 13 | 1L << 26 | 1L << 39;

    private static final int NO_MELD = 0;
    private static final int SET = 1;
    private static final int RUN = 2;

    private static final int LEAST_HANDS = 7;
    private static final int MOST_HANDS = 10;
    private static final int MOST_KNOCK = 20;
    private static final int LEAST_TARGET = 20;
    private static final int MOST_TARGET = 500;
    private static final int MOST_NUMBER = 999999999;
    private static final int MOST_TEXT = 500;

    private static final int ROUND_IS_OVER = 2;
    private static final int DRAWN_ALREADY = 3;
    private static final int NOT_DRAWN = 4;
    private static final int DRAWN_FROM_PILE = 5;
    private static final int REST_ABOVE_KNOCK = 6;
    private static final int ROUND_IS_NOT_OVER = 7;
    private static final int MATCH_IS_OVER = 8;

    // A card, or the points of a round, must not be taken for a refusal.
    private static final int REFUSED_CARD = -100;
    private static final int REFUSED_KNOCK = -1000;
    private static final int ERROR_IN_TEXT = -30;

    private static final String FIRST_TEXT =
            "cards 1 7 10 100; deck 12 0 1 26 39 13 45 25 11 24 2 3 4 30;";

    private final Match now = new Match();
    // A text with an error must leave the match as it is, so it is read into another one.
    private final Match next = new Match();
    private final History history = new History();
    private final Match[] slots = new Match[2];
    private final Reader reader = new Reader();
    private final Laying laying = new Laying();
    private final Showdown showdown = new Showdown();
    private final Report report = new Report();

    public WrapRuns() {
        reader.write(FIRST_TEXT);
        reader.readDeal(now);
        reader.shorten(0);
    }

    // ---- changes

    public int load() {
        int error = reader.readDeal(next);
        for (int i = 0; i < MOST_TEXT && error == 0 && !reader.isAtEnd(); i++) {
            error = reader.readMove(next, showdown);
        }
        reader.shorten(0);
        if (error != 0) {
            return ERROR_IN_TEXT - error;
        }
        history.push(now);
        now.copyFrom(next);
        return now.hands;
    }

    public int draw(boolean isPile) {
        int reason = now.reasonAgainstDraw();
        if (reason != 0) {
            return REFUSED_CARD - reason;
        }
        history.push(now);
        return now.takeCard(isPile);
    }

    public int drop(int card) throws NoSuchElementException {
        requireHeld(now.mover, card);
        int reason = now.reasonAgainstDrop(card);
        if (reason != 0) {
            return REFUSED_CARD - reason;
        }
        history.push(now);
        now.endTurn(card);
        return now.stockCount();
    }

    public int knock(int card) throws NoSuchElementException {
        requireHeld(now.mover, card);
        showdown.settle(now.handWithout(card), now.otherHand());
        int reason = now.reasonAgainstKnock(card, showdown.knockerRest);
        if (reason != 0) {
            return REFUSED_KNOCK - reason;
        }
        history.push(now);
        now.endRound(card, showdown.gain());
        return showdown.gain();
    }

    public int deal() {
        int reason = now.reasonAgainstDeal();
        if (reason != 0) {
            return -reason;
        }
        history.push(now);
        now.beginNextRound();
        return now.round;
    }

    public int set(boolean isTarget, int value) throws IllegalArgumentException {
        require(isTarget ? isWithin(value, LEAST_TARGET, MOST_TARGET) : isWithin(value, 0, MOST_KNOCK));
        history.push(now);
        int before = isTarget ? now.target : now.knockLimit;
        if (isTarget) {
            now.target = value;
        } else {
            now.knockLimit = value;
        }
        return before;
    }

    public int undo() {
        return history.pop(now) ? history.count : NONE;
    }

    public int keep(int slot) throws IllegalArgumentException {
        require(slot >= 0 && slot < slots.length);
        Match kept = slots[slot];
        if (kept == null) {
            kept = new Match();
            slots[slot] = kept;
        }
        kept.copyFrom(now);
        return now.round;
    }

    public int restore(int slot) throws IllegalArgumentException, IllegalStateException {
        require(slot >= 0 && slot < slots.length);
        Match kept = slots[slot];
        if (kept == null) {
            throw new IllegalStateException("nothing was kept there");
        }
        now.copyFrom(kept);
        history.forget();
        return now.round;
    }

    // ---- text

    public int append(int a, int b, int c, int d, int e) {
        if (reader.length + 20 > MOST_TEXT) {
            return NO_ROOM;
        }
        reader.writeFour(a);
        reader.writeFour(b);
        reader.writeFour(c);
        reader.writeFour(d);
        reader.writeFour(e);
        return reader.length;
    }

    public int truncate(int length) throws IllegalArgumentException {
        require(isWithin(length, 0, reader.length));
        reader.shorten(length);
        return length;
    }

    // ---- what there is

    public int match(int what) throws IllegalArgumentException {
        require(isWithin(what, 0, 16));
        switch (what) {
            case 0: return now.hands;
            case 1: return now.knockLimit;
            case 2: return now.target;
            case 3: return now.round;
            case 4: return now.mover;
            case 5: return now.isDrawn ? 1 : 0;
            case 6: return now.isOver ? 1 : 0;
            case 7: return now.isMatchOver() ? 1 : 0;
            case 8: return now.stockCount();
            case 9: return now.pileCount;
            case 10: return now.topOfPile();
            case 11: return now.score(0);
            case 12: return now.score(1);
            case 13: return now.points;
            case 14: return now.winner;
            case 15: return history.count;
            default: return reader.length;
        }
    }

    public long number() {
        return now.number;
    }

    public int player(int player, int what) throws IllegalArgumentException {
        require(isPlayer(player) && isWithin(what, 0, 7));
        long hand = now.handOf(player);
        laying.lay(hand);
        switch (what) {
            case 0: return Long.bitCount(hand);
            case 1: return laying.rest;
            case 2: return laying.foundCount;
            case 3: return Long.bitCount(laying.left);
            case 4: return laying.countKind(SET);
            case 5: return laying.countKind(RUN);
            case 6: return pointsOf(hand);
            default: return laying.countWrapped();
        }
    }

    public int card(int player, int place) throws IllegalArgumentException {
        require(isPlayer(player));
        long hand = now.handOf(player);
        if (place < 0 || place >= Long.bitCount(hand)) {
            return NONE;
        }
        for (int i = 0; i < place && i < CARDS; i++) {
            hand &= hand - 1;
        }
        return lowestOf(hand);
    }

    public int where(int card) throws IllegalArgumentException {
        require(isWithin(card, 0, CARDS - 1));
        return now.placeOf(card);
    }

    public int meldOf(int player, int card) throws IllegalArgumentException, NoSuchElementException {
        require(isPlayer(player));
        requireHeld(player, card);
        laying.lay(now.handOf(player));
        return laying.indexOf(card);
    }

    public int meld(int player, int meld, int what) throws IllegalArgumentException {
        require(isPlayer(player) && isWithin(what, 0, 3));
        laying.lay(now.handOf(player));
        if (meld < 0 || meld >= laying.foundCount) {
            return NONE;
        }
        long cards = laying.foundAt(meld);
        boolean isRun = kindOf(cards) == RUN;
        switch (what) {
            case 0: return Long.bitCount(cards);
            case 1: return isRun ? 1 : 0;
            case 2: return isRun ? firstOf(cards) : lowestOf(cards) % RANKS;
            default: return pointsOf(cards);
        }
    }

    // ---- reasons and what would be

    public int restWithout(int card) throws NoSuchElementException {
        requireHeld(now.mover, card);
        laying.lay(now.handWithout(card));
        return laying.rest;
    }

    public int bestDrop() {
        if (!now.isDropDue()) {
            return NONE;
        }
        int best = NONE;
        int least = 0;
        for (int card = 0; card < CARDS; card++) {
            if (!has(now.handOf(now.mover), card) || card == now.fromPile) {
                continue;
            }
            laying.lay(now.handWithout(card));
            boolean isBetter = laying.rest < least
                    || laying.rest == least && pointsFor(card) > pointsFor(best);
            if (best == NONE || isBetter) {
                best = card;
                least = laying.rest;
            }
        }
        return best;
    }

    public int restByPile() {
        int top = now.topOfPile();
        if (now.isDrawn || now.isOver || top == NONE) {
            return NONE;
        }
        return laying.restBehindDrop(now.handOf(now.mover) | bitOf(top), top);
    }

    public int helping(int player) throws IllegalArgumentException {
        require(isPlayer(player));
        long hand = now.handOf(player);
        if (Long.bitCount(hand) != now.hands) {
            return NONE;
        }
        laying.lay(hand);
        int rest = laying.rest;
        int count = 0;
        for (int card = 0; card < CARDS; card++) {
            if (!has(hand, card) && laying.restBehindDrop(hand | bitOf(card), card) < rest) {
                count++;
            }
        }
        return count;
    }

    public int ifKnock(int card, int what) throws NoSuchElementException, IllegalArgumentException {
        requireHeld(now.mover, card);
        require(isWithin(what, 0, 3));
        showdown.settle(now.handWithout(card), now.otherHand());
        if (what == 0) {
            return now.reasonAgainstKnock(card, showdown.knockerRest);
        }
        if (!now.isDropDue()) {
            return NONE;
        }
        switch (what) {
            case 1: return showdown.knockerRest;
            case 2: return showdown.otherRest;
            default: return showdown.added;
        }
    }

    public int needed() {
        return now.isDropDue() ? laying.restBehindDrop(now.handOf(now.mover), now.fromPile) : NONE;
    }

    public int kind(long suits) throws IllegalArgumentException {
        require(suits >= 0 && suits <= ALL_CARDS);
        return kindOf(suits);
    }

    public int gap() {
        int held = Long.bitCount(now.handOf(0)) + Long.bitCount(now.handOf(1));
        int gap = Math.abs(CARDS - held - now.stockCount() - now.pileCount);
        for (int player = 0; player < PLAYERS; player++) {
            laying.lay(now.handOf(player));
            gap += Math.abs(laying.foundPoints() + laying.rest - pointsOf(now.handOf(player)));
            gap += laying.countKind(NO_MELD);
        }
        return gap;
    }

    public double meanRest() {
        laying.lay(now.handOf(0));
        int sum = laying.rest;
        laying.lay(now.handOf(1));
        sum += laying.rest;
        return (double) sum / 2.0;
    }

    public float laid(int player) throws IllegalArgumentException {
        require(isPlayer(player));
        int held = Long.bitCount(now.handOf(player));
        laying.lay(now.handOf(player));
        int left = Long.bitCount(laying.left);
        return held > 0 ? (float) (held - left) / (float) held : 0.0f;
    }

    // ---- report

    public int writeLaying(int player) throws IllegalArgumentException {
        require(isPlayer(player));
        laying.lay(now.handOf(player));
        report.write(laying);
        return report.length;
    }

    public int reportByte(int index) {
        return report.signAt(index);
    }

    // ---- arguments

    private static void require(boolean isAllowed) {
        if (!isAllowed) {
            throw new IllegalArgumentException("an argument is out of its range");
        }
    }

    private void requireHeld(int player, int card) {
        if (!has(now.handOf(player), card)) {
            throw new NoSuchElementException("the player has no such card");
        }
    }

    private static boolean isPlayer(int player) {
        return player >= 0 && player < PLAYERS;
    }

    private static boolean isWithin(int value, int least, int most) {
        return value >= least && value <= most;
    }

    // ---- cards

    private static long bitOf(int card) {
        return card >= 0 && card < CARDS ? 1L << card : 0L;
    }

    private static boolean has(long cards, int card) {
        return (cards & bitOf(card)) != 0;
    }

    private static int lowestOf(long cards) {
        return Long.bitCount((cards & -cards) - 1);
    }

    private static int pointsFor(int card) {
        return Math.min(card % RANKS + 1, 10);
    }

    private static int pointsOf(long cards) {
        int sum = 0;
        long rest = cards;
        for (int i = 0; i < CARDS && rest != 0; i++) {
            sum += pointsFor(lowestOf(rest));
            rest &= rest - 1;
        }
        return sum;
    }

    private static int kindOf(long cards) {
        if (Long.bitCount(cards) < 3) {
            return NO_MELD;
        }
        int least = lowestOf(cards);
        if ((cards & ~(ONE_RANK << least % RANKS)) == 0) {
            return SET;
        }
        int shift = least / RANKS * RANKS;
        if ((cards & ~(ONE_SUIT << shift)) != 0) {
            return NO_MELD;
        }
        return Long.bitCount(beginningsOf(cards >>> shift)) <= 1 ? RUN : NO_MELD;
    }

    /** Gives the ranks that follow none of the others; all 13 ranks have no such one. */
    private static long beginningsOf(long ranks) {
        long following = (ranks << 1 | ranks >>> RANKS - 1) & ONE_SUIT;
        return ranks & ~following;
    }

    private static int firstOf(long run) {
        int shift = lowestOf(run) / RANKS * RANKS;
        long beginnings = beginningsOf(run >>> shift & ONE_SUIT);
        return beginnings == 0 ? shift : shift + lowestOf(beginnings);
    }

    /** A search for the best way to lay a hand out. */
    private static final class Laying {
        // A hand of 11 cards has at most 45 melds: when they are all of one suit, in a row.
        private static final int MOST_MELDS = 64;
        // A hand of 11 cards has at most 3 melds beside one another.
        private static final int MOST_LAID = 4;

        private final long[] melds = new long[MOST_MELDS];
        private final int[] kinds = new int[MOST_MELDS];
        private final int[] keys = new int[MOST_MELDS];
        private final int[] worths = new int[MOST_MELDS];
        private int meldCount;
        private final long[] tried = new long[MOST_LAID];
        private final long[] found = new long[MOST_LAID];
        private int foundCount;
        private int foundWorth;
        private long left;
        private int rest;
        private long hand;
        private long droppable;
        private int leastRest;

        void lay(long cards) {
            collect(cards);
            for (int i = 0; i < meldCount && i < MOST_MELDS; i++) {
                keys[i] = keyOf(melds[i], kinds[i]);
                worths[i] = pointsOf(melds[i]);
            }
            sort();
            foundCount = 0;
            foundWorth = -1;
            search(0, 0L, 0, 0);
            left = cards;
            for (int i = 0; i < foundCount && i < found.length; i++) {
                left &= ~found[i];
            }
            rest = pointsOf(left);
        }

        /** Tells the least rest behind the drop of a card other than the locked one. */
        int restBehindDrop(long cards, int locked) {
            collect(cards);
            hand = cards;
            droppable = cards & ~bitOf(locked);
            leastRest = NONE;
            searchDrop(0, 0L, 0);
            return leastRest;
        }

        private void collect(long cards) {
            meldCount = 0;
            for (int rank = 0; rank < RANKS; rank++) {
                collectSets(cards & ONE_RANK << rank);
            }
            for (int suit = 0; suit < SUITS; suit++) {
                collectRuns(cards >>> suit * RANKS & ONE_SUIT, suit * RANKS);
            }
        }

        private void collectSets(long same) {
            int size = Long.bitCount(same);
            if (size < 3) {
                return;
            }
            addMeld(same, SET);
            for (int suit = 0; suit < SUITS && size == SUITS; suit++) {
                addMeld(same & ~(ONE_SUIT << suit * RANKS), SET);
            }
        }

        private void collectRuns(long ranks, int shift) {
            if (Long.bitCount(ranks) < 3) {
                return;
            }
            for (int first = 0; first < RANKS; first++) {
                long run = 0;
                // Thirteen cards are the same run from wherever they are counted.
                int most = first == 0 ? RANKS : RANKS - 1;
                for (int size = 1; size <= most; size++) {
                    long card = 1L << (first + size - 1) % RANKS;
                    if ((ranks & card) == 0) {
                        break;
                    }
                    run |= card;
                    if (size >= 3) {
                        addMeld(run << shift, RUN);
                    }
                }
            }
        }

        private void addMeld(long meld, int kind) {
            if (meldCount < MOST_MELDS) {
                melds[meldCount] = meld;
                kinds[meldCount] = kind;
                meldCount++;
            }
        }

        /** Tells by one number what goes ahead: the least card, then fewer cards, then a set. */
        private static int keyOf(long meld, int kind) {
            return (lowestOf(meld) * (RANKS + 1) + Long.bitCount(meld)) * 4 + kind;
        }

        /** Sorts by the order in which the melds go ahead, so that the first best laying is THE LAYING. */
        private void sort() {
            for (int i = 1; i < meldCount && i < MOST_MELDS; i++) {
                for (int at = i; at > 0 && isAhead(at, at - 1); at--) {
                    long meld = melds[at];
                    melds[at] = melds[at - 1];
                    melds[at - 1] = meld;
                    int key = keys[at];
                    keys[at] = keys[at - 1];
                    keys[at - 1] = key;
                    int worth = worths[at];
                    worths[at] = worths[at - 1];
                    worths[at - 1] = worth;
                }
            }
        }

        private boolean isAhead(int a, int b) {
            if (keys[a] != keys[b]) {
                return keys[a] < keys[b];
            }
            long differing = melds[a] ^ melds[b];
            return (melds[a] & differing & -differing) != 0;
        }

        /**
         * Tries the melds in their order, and taking one ahead of taking none; only a better laying
         * replaces the one that was found, so that of several as good the first one stays.
         */
        private void search(int from, long used, int worth, int depth) {
            if (depth < 0 || depth > MOST_LAID) {
                return;
            }
            for (int i = from; i >= 0 && i < meldCount && i < MOST_MELDS && depth < MOST_LAID; i++) {
                if ((melds[i] & used) == 0) {
                    tried[depth] = melds[i];
                    search(i + 1, used | melds[i], worth + worths[i], depth + 1);
                }
            }
            if (worth > foundWorth) {
                foundWorth = worth;
                foundCount = depth;
                for (int i = 0; i < depth && i < MOST_LAID; i++) {
                    found[i] = tried[i];
                }
            }
        }

        /** Drops the dearest card of those that each laying leaves: no other drop leaves less with it. */
        private void searchDrop(int from, long used, int depth) {
            if (depth < 0 || depth > MOST_LAID) {
                return;
            }
            for (int i = from; i >= 0 && i < meldCount && i < MOST_MELDS; i++) {
                if ((melds[i] & used) == 0) {
                    searchDrop(i + 1, used | melds[i], depth + 1);
                }
            }
            int most = mostPointsOf(droppable & ~used);
            int restThen = pointsOf(hand & ~used) - most;
            if (most > 0 && (leastRest == NONE || restThen < leastRest)) {
                leastRest = restThen;
            }
        }

        private static int mostPointsOf(long cards) {
            int most = 0;
            long others = cards;
            for (int i = 0; i < CARDS && others != 0; i++) {
                most = Math.max(most, pointsFor(lowestOf(others)));
                others &= others - 1;
            }
            return most;
        }

        long foundAt(int index) {
            return index >= 0 && index < foundCount && index < found.length ? found[index] : 0L;
        }

        int indexOf(int card) {
            for (int i = 0; i < foundCount; i++) {
                if (has(foundAt(i), card)) {
                    return i;
                }
            }
            return NONE;
        }

        int countKind(int kind) {
            int count = 0;
            for (int i = 0; i < foundCount; i++) {
                if (kindOf(foundAt(i)) == kind) {
                    count++;
                }
            }
            return count;
        }

        int countWrapped() {
            int count = 0;
            for (int i = 0; i < foundCount; i++) {
                long meld = foundAt(i);
                int first = kindOf(meld) == RUN ? firstOf(meld) : NONE;
                // A run that wraps begins above the rank 0 and has it all the same.
                if (first != NONE && first % RANKS > 0 && has(meld, first / RANKS * RANKS)) {
                    count++;
                }
            }
            return count;
        }

        int foundPoints() {
            int sum = 0;
            for (int i = 0; i < foundCount; i++) {
                sum += pointsOf(foundAt(i));
            }
            return sum;
        }

        void widen(int index, int card) {
            if (index >= 0 && index < foundCount && index < found.length) {
                found[index] |= bitOf(card);
            }
        }
    }

    /** What a knock brings. */
    private static final class Showdown {
        private final Laying knocker = new Laying();
        private final Laying other = new Laying();
        private int knockerRest;
        private int otherRest;
        private int added;

        void settle(long knockerHand, long otherHand) {
            knocker.lay(knockerHand);
            other.lay(otherHand);
            knockerRest = knocker.rest;
            added = 0;
            long left = other.left;
            for (int i = 0; i < CARDS && knockerRest > 0; i++) {
                int card = addOne(left);
                if (card == NONE) {
                    break;
                }
                left &= ~bitOf(card);
                added++;
            }
            otherRest = pointsOf(left);
        }

        /** Adds the least card that a meld takes to the first one that takes it. */
        private int addOne(long cards) {
            for (int card = 0; card < CARDS; card++) {
                for (int i = 0; i < knocker.foundCount && has(cards, card); i++) {
                    if (kindOf(knocker.foundAt(i) | bitOf(card)) != NO_MELD) {
                        knocker.widen(i, card);
                        return card;
                    }
                }
            }
            return NONE;
        }

        /** The points of the one who knocked, or the negative of those of the other one. */
        int gain() {
            if (knockerRest == 0) {
                return otherRest + 20;
            }
            return knockerRest < otherRest ? otherRest - knockerRest : otherRest - knockerRest - 10;
        }
    }

    /** All that can be undone and kept, and the rules by which it goes on. */
    private static final class Match {
        private int hands;
        private int knockLimit;
        private int target;
        private long number;
        private int round;
        private int mover;
        private boolean isDrawn;
        private int fromPile;
        private boolean isOver;
        private int points;
        private int winner;
        private final int[] scores = new int[PLAYERS];
        private final long[] held = new long[PLAYERS];
        private final int[] deck = new int[CARDS];
        // The stock is the deck from here on: cards only ever leave it from the top.
        private int stockTop;
        private final int[] pile = new int[CARDS];
        private int pileCount;

        void copyFrom(Match other) {
            hands = other.hands;
            knockLimit = other.knockLimit;
            target = other.target;
            number = other.number;
            round = other.round;
            mover = other.mover;
            isDrawn = other.isDrawn;
            fromPile = other.fromPile;
            isOver = other.isOver;
            points = other.points;
            winner = other.winner;
            stockTop = other.stockTop;
            pileCount = other.pileCount;
            System.arraycopy(other.scores, 0, scores, 0, PLAYERS);
            System.arraycopy(other.held, 0, held, 0, PLAYERS);
            System.arraycopy(other.deck, 0, deck, 0, CARDS);
            System.arraycopy(other.pile, 0, pile, 0, CARDS);
        }

        void begin() {
            round = 0;
            points = 0;
            winner = NONE;
            scores[0] = 0;
            scores[1] = 0;
        }

        void shuffle() {
            for (int i = 0; i < CARDS; i++) {
                deck[i] = i;
            }
            for (int k = CARDS - 1; k > 0; k--) {
                number = (number * 1103515245L + 12345L) % 2147483648L;
                int other = (int) (number / 65536L % (k + 1));
                if (other >= 0 && other < CARDS) {
                    int card = deck[k];
                    deck[k] = deck[other];
                    deck[other] = card;
                }
            }
        }

        void dealOut() {
            for (int player = 0; player < PLAYERS; player++) {
                held[player] = 0L;
                for (int i = 0; i < hands; i++) {
                    held[player] |= bitOf(deckAt(player * hands + i));
                }
            }
            pile[0] = deckAt(PLAYERS * hands);
            pileCount = 1;
            stockTop = PLAYERS * hands + 1;
            mover = (round & 1) == 0 ? 0 : 1;
            isDrawn = false;
            fromPile = NONE;
            isOver = false;
        }

        void beginNextRound() {
            round++;
            shuffle();
            dealOut();
        }

        int takeCard(boolean isPile) {
            int card = isPile ? topOfPile() : deckAt(stockTop);
            if (card == NONE) {
                return NONE;
            }
            if (isPile) {
                pileCount--;
                fromPile = card;
            } else {
                stockTop++;
            }
            held[mover & 1] |= bitOf(card);
            isDrawn = true;
            return card;
        }

        private void putDown(int card) {
            held[mover & 1] &= ~bitOf(card);
            if (pileCount >= 0 && pileCount < CARDS) {
                pile[pileCount] = card;
                pileCount++;
            }
            isDrawn = false;
            fromPile = NONE;
        }

        void endTurn(int card) {
            putDown(card);
            if (stockCount() > 0) {
                mover = 1 - mover;
                return;
            }
            isOver = true;
            points = 0;
            winner = NONE;
        }

        void endRound(int card, int gain) {
            putDown(card);
            isOver = true;
            points = Math.abs(gain);
            winner = gain > 0 ? mover : 1 - mover;
            scores[winner & 1] += points;
        }

        int reasonAgainstDraw() {
            if (isOver) {
                return ROUND_IS_OVER;
            }
            return isDrawn ? DRAWN_ALREADY : 0;
        }

        int reasonAgainstDrop(int card) {
            if (isOver) {
                return ROUND_IS_OVER;
            }
            if (!isDrawn) {
                return NOT_DRAWN;
            }
            return card == fromPile ? DRAWN_FROM_PILE : 0;
        }

        int reasonAgainstKnock(int card, int rest) {
            int reason = reasonAgainstDrop(card);
            if (reason != 0) {
                return reason;
            }
            return rest > knockLimit ? REST_ABOVE_KNOCK : 0;
        }

        int reasonAgainstDeal() {
            if (!isOver) {
                return ROUND_IS_NOT_OVER;
            }
            return isMatchOver() ? MATCH_IS_OVER : 0;
        }

        boolean isMatchOver() {
            return isOver && (scores[0] >= target || scores[1] >= target);
        }

        boolean isDropDue() {
            return isDrawn && !isOver;
        }

        private int deckAt(int place) {
            return place >= 0 && place < CARDS ? deck[place] : NONE;
        }

        int stockCount() {
            return CARDS - stockTop;
        }

        int topOfPile() {
            return pileCount > 0 && pileCount <= CARDS ? pile[pileCount - 1] : NONE;
        }

        int score(int player) {
            return scores[player & 1];
        }

        long handOf(int player) {
            return held[player & 1];
        }

        long otherHand() {
            return handOf(1 - mover);
        }

        long handWithout(int card) {
            return handOf(mover) & ~bitOf(card);
        }

        int placeOf(int card) {
            for (int player = 0; player < PLAYERS; player++) {
                if (has(held[player], card)) {
                    return player;
                }
            }
            for (int i = 0; i < pileCount && i < CARDS; i++) {
                if (pile[i] == card) {
                    return 2;
                }
            }
            return 3;
        }
    }

    /** The matches ahead of the latest changes. */
    private static final class History {
        private static final int MOST = 10;

        // A ring: behind the last row comes the first one again, in place of the oldest match.
        private final Match[] past = new Match[MOST];
        private int end;
        private int count;

        void push(Match match) {
            int place = end >= 0 && end < MOST ? end : 0;
            Match row = past[place];
            if (row == null) {
                row = new Match();
                past[place] = row;
            }
            row.copyFrom(match);
            end = place + 1;
            count = Math.min(count + 1, MOST);
        }

        boolean pop(Match match) {
            int place = end > 0 && end <= MOST ? end - 1 : MOST - 1;
            Match row = past[place];
            if (count == 0 || row == null) {
                return false;
            }
            match.copyFrom(row);
            end = place;
            count--;
            return true;
        }

        void forget() {
            count = 0;
        }
    }

    /** The text buffer, and how a match is read from it. */
    private static final class Reader {
        private static final int END = 0;
        private static final int WORD = 1;
        private static final int FIGURES = 2;
        private static final int SEMICOLON = 3;
        private static final int STRANGE = 4;

        private static final int NO_MOVE = 0;
        private static final int STOCK = 1;
        private static final int PILE = 2;
        private static final int DROP = 3;
        private static final int KNOCK = 4;
        private static final int DEAL = 5;

        private static final int MISPLACED = 1;
        private static final int OUT_OF_RANGE = 2;
        private static final int WRONG_CARD = 3;
        private static final int REFUSED = 4;

        private static final int MOST_FIGURES = 9;

        private final byte[] text = new byte[MOST_TEXT];
        private int length;
        private int at;
        private int start;
        private int token;
        private int value;
        private final int[] order = new int[CARDS];
        private int told;

        void writeByte(int sign) {
            if (length >= 0 && length < MOST_TEXT) {
                text[length] = (byte) sign;
                length++;
            }
        }

        void writeFour(int bytes) {
            for (int shift = 24; shift >= 0; shift -= 8) {
                writeByte(bytes >>> shift);
            }
        }

        void write(String signs) {
            for (int i = 0; i < signs.length(); i++) {
                writeByte(signs.charAt(i));
            }
        }

        void shorten(int newLength) {
            length = newLength;
        }

        /**
         * Reads all that stands ahead of the moves, and deals. This and readMove() return 0, or 8 times
         * the position of the error plus its code.
         */
        int readDeal(Match match) {
            at = 0;
            int error = readHead(match);
            if (error == 0) {
                error = readDeck();
            }
            if (error == 0) {
                match.begin();
                match.shuffle();
                arrange(match);
                match.dealOut();
            }
            return error;
        }

        boolean isAtEnd() {
            return token == END;
        }

        private int readHead(Match match) {
            advance();
            if (!isWord("cards")) {
                return errorAs(MISPLACED);
            }
            int error = readNumber(0, MOST_NUMBER);
            match.number = value;
            if (error == 0) {
                error = readNumber(LEAST_HANDS, MOST_HANDS);
                match.hands = value;
            }
            if (error == 0) {
                error = readNumber(0, MOST_KNOCK);
                match.knockLimit = value;
            }
            if (error == 0) {
                error = readNumber(LEAST_TARGET, MOST_TARGET);
                match.target = value;
            }
            if (error == 0) {
                error = readSemicolon();
            }
            return error;
        }

        /** Reads the cards that come first, if the text tells them, and the token behind. */
        private int readDeck() {
            told = 0;
            long seen = 0L;
            advance();
            if (!isWord("deck")) {
                return 0;
            }
            int error = readNumber(0, CARDS - 1);
            // No more than all cards can be told: then the next one was told already.
            for (int i = 0; i <= CARDS && error == 0 && token == FIGURES; i++) {
                if (has(seen, value) || told >= CARDS) {
                    return errorAs(WRONG_CARD);
                }
                seen |= bitOf(value);
                order[told] = value;
                told++;
                advance();
                if (token == FIGURES) {
                    error = rangeError(0, CARDS - 1);
                }
            }
            if (error != 0) {
                return error;
            }
            if (token != SEMICOLON) {
                return errorAs(MISPLACED);
            }
            advance();
            return 0;
        }

        /** Puts the told cards ahead of the others, which keep their order. */
        private void arrange(Match match) {
            long seen = 0L;
            for (int i = 0; i < told && i < CARDS; i++) {
                seen |= bitOf(order[i]);
            }
            int count = told;
            for (int i = 0; i < CARDS && count < CARDS; i++) {
                int card = match.deckAt(i);
                if (!has(seen, card)) {
                    order[count] = card;
                    count++;
                }
            }
            System.arraycopy(order, 0, match.deck, 0, CARDS);
        }

        int readMove(Match match, Showdown showdown) {
            int move = moveTold();
            if (move == NO_MOVE) {
                return errorAs(MISPLACED);
            }
            int card = NONE;
            int error = 0;
            if (move == DROP || move == KNOCK) {
                error = readHeldCard(match);
                card = value;
            }
            if (error == 0) {
                error = readSemicolon();
            }
            if (error != 0) {
                return error;
            }
            if (!play(match, move, card, showdown)) {
                return errorAs(REFUSED);
            }
            advance();
            return 0;
        }

        private int moveTold() {
            if (isWord("stock")) {
                return STOCK;
            }
            if (isWord("pile")) {
                return PILE;
            }
            if (isWord("drop")) {
                return DROP;
            }
            if (isWord("knock")) {
                return KNOCK;
            }
            return isWord("deal") ? DEAL : NO_MOVE;
        }

        private int readHeldCard(Match match) {
            int error = readNumber(0, CARDS - 1);
            if (error == 0 && !has(match.handOf(match.mover), value)) {
                error = errorAs(WRONG_CARD);
            }
            return error;
        }

        private static boolean play(Match match, int move, int card, Showdown showdown) {
            int reason;
            switch (move) {
                case DROP:
                    reason = match.reasonAgainstDrop(card);
                    if (reason == 0) {
                        match.endTurn(card);
                    }
                    break;
                case KNOCK:
                    showdown.settle(match.handWithout(card), match.otherHand());
                    reason = match.reasonAgainstKnock(card, showdown.knockerRest);
                    if (reason == 0) {
                        match.endRound(card, showdown.gain());
                    }
                    break;
                case DEAL:
                    reason = match.reasonAgainstDeal();
                    if (reason == 0) {
                        match.beginNextRound();
                    }
                    break;
                default:
                    reason = match.reasonAgainstDraw();
                    if (reason == 0) {
                        match.takeCard(move == PILE);
                    }
                    break;
            }
            return reason == 0;
        }

        private int readNumber(int least, int most) {
            advance();
            return token == FIGURES ? rangeError(least, most) : errorAs(MISPLACED);
        }

        private int rangeError(int least, int most) {
            return value < least || value > most ? errorAs(OUT_OF_RANGE) : 0;
        }

        private int readSemicolon() {
            advance();
            return token == SEMICOLON ? 0 : errorAs(MISPLACED);
        }

        private int errorAs(int code) {
            return 8 * start + code;
        }

        private void advance() {
            while (at < length && isBlank(signAt(at))) {
                at++;
            }
            start = at;
            value = 0;
            int sign = signAt(at);
            if (sign == NONE) {
                token = END;
            } else if (isLetter(sign)) {
                token = WORD;
                while (at < length && isLetter(signAt(at))) {
                    at++;
                }
            } else if (isFigure(sign)) {
                readFigures();
            } else {
                token = sign == ';' ? SEMICOLON : STRANGE;
                at++;
            }
        }

        private void readFigures() {
            while (at < length && isFigure(signAt(at))) {
                if (at - start < MOST_FIGURES) {
                    value = value * 10 + signAt(at) - '0';
                }
                at++;
            }
            token = at - start <= MOST_FIGURES ? FIGURES : STRANGE;
        }

        private boolean isWord(String word) {
            if (token != WORD || at - start != word.length()) {
                return false;
            }
            for (int i = 0; i < word.length(); i++) {
                if (signAt(start + i) != word.charAt(i)) {
                    return false;
                }
            }
            return true;
        }

        private int signAt(int place) {
            return place >= 0 && place < length && place < MOST_TEXT ? text[place] & 255 : NONE;
        }

        private static boolean isBlank(int sign) {
            return sign == 32 || sign == 10;
        }

        private static boolean isLetter(int sign) {
            return sign >= 'a' && sign <= 'z';
        }

        private static boolean isFigure(int sign) {
            return sign >= '0' && sign <= '9';
        }
    }

    /** The report that was written last. */
    private static final class Report {
        private static final String RANK_SIGNS = "A23456789TJQK";
        private static final String SUIT_SIGNS = "cdhs";
        // 11 cards are told by 22 signs, with at most 12 between them.
        private static final int MOST = 64;

        private final byte[] bytes = new byte[MOST];
        private int length;

        void write(Laying laying) {
            length = 0;
            for (int i = 0; i < laying.foundCount; i++) {
                if (i > 0) {
                    writeSign(' ');
                }
                writeMeld(laying.foundAt(i));
            }
            if (laying.left != 0) {
                if (length > 0) {
                    writeSign(' ');
                }
                writeSign('-');
                writeCards(laying.left, lowestOf(laying.left));
            }
        }

        private void writeMeld(long meld) {
            writeCards(meld, kindOf(meld) == RUN ? firstOf(meld) : lowestOf(meld));
        }

        /** Writes the cards from the first one on; those of a run that wraps go on below it. */
        private void writeCards(long cards, int first) {
            boolean isAnyWritten = false;
            for (int i = 0; i < CARDS; i++) {
                int card = (first + i) % CARDS;
                if (has(cards, card)) {
                    if (isAnyWritten) {
                        writeSign(',');
                    }
                    writeCard(card);
                    isAnyWritten = true;
                }
            }
        }

        private void writeCard(int card) {
            int rank = card % RANKS;
            int suit = card / RANKS;
            if (rank >= 0 && rank < RANK_SIGNS.length() && suit >= 0 && suit < SUIT_SIGNS.length()) {
                writeSign(RANK_SIGNS.charAt(rank));
                writeSign(SUIT_SIGNS.charAt(suit));
            }
        }

        private void writeSign(int sign) {
            if (length >= 0 && length < MOST) {
                bytes[length] = (byte) sign;
                length++;
            }
        }

        int signAt(int index) {
            return index >= 0 && index < length && index < MOST ? bytes[index] : NONE;
        }
    }
}
