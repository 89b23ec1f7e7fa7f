/**
 * A house of cards of sixteen pieces on four levels: told as a text, built, taken down, blown at,
 * and asked what may be. The numbered promises of the document say what each call answers.
 */
public final class CardHouse {
    public static final int UNKNOWN = -1, BAD = -2, LATE = -3, FULL = -4, NONE = -9;

    private static final int PIECES = 16, KINDS = 4, LEVELS = 4, LOWEST_TENTS = 4;
    private static final int TEXT_LIMIT = 56, HEAD = 5, LETTERS_PER_PIECE = 3;
    private static final int ACTS_LIMIT = 14, SLOTS = 2, HELD_LIMIT = 6;
    private static final int MOST_FORCE = 9, FORCE_WEIGHT = 8, MOST_EVENINGS = 30;
    private static final int HEAVY = 3, CARD_WEIGHT = 8, HEAVY_WEIGHT = 16;
    private static final int LOWEST = 15, ALL_KINDS = 15, TENTS = 45967;
    private static final int CHOICES = 5, NO_KIND = 4;
    private static final int DOING = 10000, MOST_DOINGS = 4;
    private static final long MULTIPLIER = 6364136223846793005L, INCREMENT = 1442695040888963407L;

    /** The pieces that each piece is on, as bits: always of lower numbers than its own. */
    private static final int[] UNDER = {
        0, 0, 0, 0, 3, 6, 12, 16, 32, 64, 384, 768, 1024, 2048, 12288, 16384
    };
    /** The same pieces by number, the left one and, under a flat, the right one. */
    private static final int[] LEFT_UNDER = {
        NONE, NONE, NONE, NONE, 0, 1, 2, 4, 5, 6, 7, 8, 10, 11, 12, 14
    };
    private static final int[] RIGHT_UNDER = {
        NONE, NONE, NONE, NONE, 1, 2, 3, NONE, NONE, NONE, 8, 9, NONE, NONE, 13, NONE
    };
    private static final int[] LEVEL_OF = {0, 0, 0, 0, 0, 0, 0, 1, 1, 1, 1, 1, 2, 2, 2, 3};
    private static final int[] TENTS_OF_LEVEL = {15, 896, 12288, 32768};
    private static final int[] BEARS = {60, 30, 45, 80};
    private static final int[] GRIP = {0, 8, -8, 0};
    /** Of the 24 orders, those in which just so many of the other three came ahead. */
    private static final int[] ORDERS = {6, 2, 2, 6};
    private static final long[] DOINGS_LIMIT = {
        1L, 10000L, 100000000L, 1000000000000L, 10000000000000000L
    };

    private final Text text;
    private final Pile now;
    private final Pile trial;
    private final Shelf acts;
    private final Shelf slots;
    private final Contest contest;
    private int actCount;
    private int keptSlots;
    private int heldCount;
    private int oneKinds;
    private int otherKinds;
    private long theSeed;

    public CardHouse() {
        text = new Text();
        now = new Pile();
        trial = new Pile();
        acts = new Shelf(ACTS_LIMIT);
        slots = new Shelf(SLOTS);
        contest = new Contest();
        oneKinds = ALL_KINDS;
        otherKinds = ALL_KINDS;
    }

    // ---- the house

    public int write(int letter) {
        if (letter < 0 || letter > 255) return BAD;
        if (text.length >= TEXT_LIMIT) return FULL;
        text.append(letter);
        return text.length;
    }

    public int wipe() {
        int was = text.length;
        text.length = 0;
        return was;
    }

    public int fault() {
        return text.readInto(trial);
    }

    public int house() {
        if (text.readInto(trial) != NONE) return LATE;
        trial.settle();
        trial.fell = 0;
        now.copyFrom(trial);
        actCount = 0;
        keptSlots = 0;
        return now.size();
    }

    public int about(int what) {
        switch (what) {
            case 0: return now.size();
            case 1: return now.there;
            case 2: return cardsInDeck();
            case 3: return now.fell;
            case 4: return now.highestLevel();
            case 5: return actCount;
            case 6: return heldCount;
            case 7: return text.length;
            default: return BAD;
        }
    }

    private int cardsInDeck() {
        int sum = 0;
        for (int kind = 0; kind < KINDS; kind++) sum += now.cardsLeft(kind);
        return sum;
    }

    public int deck(int kind) {
        return isKind(kind) ? now.cardsLeft(kind) : UNKNOWN;
    }

    public int piece(int piece, int what) {
        if (!isPiece(piece)) return UNKNOWN;
        if (what < 0 || what > 4) return BAD;
        if (!now.has(piece)) return what == 0 ? NONE : LATE;
        switch (what) {
            case 0: return now.kindOf(piece);
            case 1: return now.weightOf(piece);
            case 2: return now.loadOf(piece);
            case 3: return BEARS[now.kindOf(piece)];
            default: return now.canLift(piece) ? 1 : 0;
        }
    }

    // ---- acts

    public int put(int piece, int kind) {
        if (!isPiece(piece) || !isKind(kind)) return UNKNOWN;
        if (now.has(piece)) return FULL;
        if (!now.canLay(piece, kind)) return LATE;
        recordAct();
        return now.lay(piece, kind);
    }

    public int take(int piece) {
        if (!isPiece(piece)) return UNKNOWN;
        if (!now.canLift(piece)) return LATE;
        recordAct();
        now.lift(piece);
        return cardsOf(piece);
    }

    public int draught(int level, int f) {
        if (!isLevel(level)) return UNKNOWN;
        if (!isForce(f)) return BAD;
        recordAct();
        return now.blow(level, f);
    }

    public int undo() {
        if (actCount == 0) return LATE;
        actCount--;
        acts.restore(actCount, now);
        return actCount;
    }

    private void recordAct() {
        if (actCount >= ACTS_LIMIT) {
            acts.forgetFirst();
            actCount = ACTS_LIMIT - 1;
        }
        acts.store(actCount, now);
        actCount++;
    }

    // ---- what may be

    public int open(int kind) {
        if (!isKind(kind)) return UNKNOWN;
        int left = now.cardsLeft(kind);
        int bits = 0;
        for (int piece = 0; piece < PIECES; piece++) {
            if (now.hasRoomFor(piece) && cardsOf(piece) <= left) bits |= 1 << piece;
        }
        return bits;
    }

    public int spread(int piece) {
        if (!isPiece(piece)) return UNKNOWN;
        if (!now.has(piece)) return LATE;
        return now.goneWith(1 << piece);
    }

    public int stands(int level) {
        if (!isLevel(level)) return UNKNOWN;
        return now.forceStood(level);
    }

    public int wants(int piece, int what) {
        if (!isPiece(piece)) return UNKNOWN;
        if (what < 0 || what > 1) return BAD;
        int missing = now.missingFor(piece);
        int count = Integer.bitCount(missing);
        return what == 0 ? count : count + Integer.bitCount(missing & TENTS);
    }

    public int fit(int piece) {
        if (!isPiece(piece)) return UNKNOWN;
        if (now.has(piece)) return FULL;
        // The heavy kind is the last one, and the rest weigh alike: the first that fits is the lightest.
        for (int kind = 0; kind < KINDS; kind++) {
            trial.copyFrom(now);
            if (trial.canLay(piece, kind) && trial.lay(piece, kind) == 0) return kind;
        }
        return NONE;
    }

    public int judge(int n, long row) {
        if (n < 1 || n > MOST_DOINGS) return BAD;
        if (row < 0 || row >= DOINGS_LIMIT[n]) return BAD;
        trial.copyFrom(now);
        for (int place = 0; place < n; place++) {
            long behind = DOINGS_LIMIT[n - 1 - place];
            int doing = (int) (row / behind % DOING);
            if (!canBeDone(doing)) return place;
        }
        return NONE;
    }

    private boolean canBeDone(int doing) {
        int number = doing / 10 % 100;
        int last = doing % 10;
        switch (doing / 1000) {
            case 1: return trial.layIfCan(number, last);
            case 2: return last == 0 && trial.liftIfCan(number);
            case 3: return trial.blowIfCan(number, last);
            case 4: return last == 0 && isPiece(number) && trial.has(number);
            case 5: return last == 0 && trial.size() >= number;
            default: return false;
        }
    }

    public int share(int tent, boolean upper) {
        if (tent < 0 || tent >= LOWEST_TENTS) return UNKNOWN;
        int sum = 0;
        for (int came = 0; came <= LOWEST; came++) {
            if ((came >> tent & 1) == 0) {
                int more = now.sizeWithout(LOWEST & ~(came | 1 << tent));
                int less = now.sizeWithout(LOWEST & ~came);
                sum += ORDERS[Integer.bitCount(came) & 3] * (more - less);
            }
        }
        return partOfFraction(sum, 24, upper);
    }

    // ---- held

    public int hold(int w, int f, int l, int held) {
        if (w < 0 || w > 1 || !isForce(f) || l < 0 || l > 9 || held < 0 || held > 1) return BAD;
        if (heldCount >= HELD_LIMIT) return FULL;
        int agreeing = kindsThatHold(f, FORCE_WEIGHT * l);
        if (held == 0) agreeing = ALL_KINDS & ~agreeing;
        if (w == 0) oneKinds &= agreeing;
        else otherKinds &= agreeing;
        heldCount++;
        return heldCount;
    }

    private static int kindsThatHold(int force, int load) {
        int kinds = 0;
        for (int kind = 0; kind < KINDS; kind++) {
            if (steadiness(kind, load) >= FORCE_WEIGHT * force) kinds |= 1 << kind;
        }
        return kinds;
    }

    public int unhold() {
        int was = heldCount;
        heldCount = 0;
        oneKinds = ALL_KINDS;
        otherKinds = ALL_KINDS;
        return was;
    }

    public int tents(int what) {
        if (what < 0 || what > 1) return BAD;
        if (what == 0) return Integer.bitCount(oneKinds) * Integer.bitCount(otherKinds);
        if (oneKinds == 0 || otherKinds == 0) return NONE;
        return 10 * Integer.numberOfTrailingZeros(oneKinds) + Integer.numberOfTrailingZeros(otherKinds);
    }

    // ---- rests, chances

    public int rests(int one, int other, int what) {
        if (!isPiece(one) || !isPiece(other)) return UNKNOWN;
        if (one == other || what < 0 || what > 1) return BAD;
        if (now.has(one) || now.has(other)) return LATE;
        for (int first = 0; first < CHOICES; first++) {
            for (int second = 0; second < CHOICES; second++) {
                trial.copyFrom(now);
                trial.layIfCan(one, first);
                trial.layIfCan(other, second);
                contest.note(first, second, gain(one, first), gain(other, second));
            }
        }
        return what == 0 ? contest.countAtRest() : contest.firstAtRest();
    }

    private int gain(int piece, int choice) {
        return trial.size() + (trial.has(piece) ? 2 : 0) - (choice == NO_KIND ? 0 : 1);
    }

    public int shaken(int v, int x, boolean upper) {
        if (v < 0 || v > PIECES || x < 0 || x > 10) return BAD;
        int standing = now.there & LOWEST;
        int sum = 0;
        for (int falling = 0; falling <= LOWEST; falling++) {
            if ((falling & ~standing) == 0 && now.sizeWithout(falling) >= v) {
                sum += power(x, Integer.bitCount(falling))
                        * power(10 - x, Integer.bitCount(standing & ~falling));
            }
        }
        return partOfFraction(sum, power(10, Integer.bitCount(standing)), upper);
    }

    public long seed(long v) {
        long was = theSeed;
        theSeed = v;
        return was;
    }

    public int evenings(int m) {
        if (m < 1 || m > MOST_EVENINGS) return BAD;
        trial.copyFrom(now);
        int together = 0;
        for (int i = 0; i < m; i++) {
            theSeed = theSeed * MULTIPLIER + INCREMENT;
            passEvening((int) ((theSeed >>> 33) % 80));
            together += trial.size();
        }
        return together;
    }

    private void passEvening(int drawn) {
        if (drawn < 64) trial.layIfCan(drawn / 4, drawn % 4);
        else if (drawn < 76) trial.blowIfCan((drawn - 64) / 3, 2 + (drawn - 64) % 3);
        else trial.liftIfCan(drawn - 64);
    }

    // ---- slots

    public int keep(int slot) {
        if (!isSlot(slot)) return UNKNOWN;
        slots.store(slot, now);
        keptSlots |= 1 << slot;
        return now.size();
    }

    public int again(int slot) {
        if (!isSlot(slot)) return UNKNOWN;
        if ((keptSlots >> slot & 1) == 0) return LATE;
        slots.restore(slot, now);
        actCount = 0;
        return now.size();
    }

    // ---- what all of it uses

    private static boolean isPiece(int piece) {
        return piece >= 0 && piece < PIECES;
    }

    private static boolean isKind(int kind) {
        return kind >= 0 && kind < KINDS;
    }

    private static boolean isLevel(int level) {
        return level >= 0 && level < LEVELS;
    }

    private static boolean isForce(int force) {
        return force >= 1 && force <= MOST_FORCE;
    }

    private static boolean isSlot(int slot) {
        return slot >= 0 && slot < SLOTS;
    }

    private static int cardsOf(int piece) {
        return 1 + (TENTS >> piece & 1);
    }

    private static int cardWeight(int kind) {
        return kind == HEAVY ? HEAVY_WEIGHT : CARD_WEIGHT;
    }

    /** What a tent has against a draught; it holds one of force f by 8 f or more. */
    private static int steadiness(int kind, int load) {
        return 2 * cardWeight(kind) + load + (isKind(kind) ? GRIP[kind] : 0);
    }

    private static int power(int base, int exponent) {
        int product = 1;
        for (int i = 0; i < exponent; i++) product *= base;
        return product;
    }

    private static int partOfFraction(int above, int below, boolean upper) {
        int common = Math.max(1, commonDivisor(above, below));
        return (upper ? above : below) / common;
    }

    private static int commonDivisor(int above, int below) {
        int a = Math.abs(above);
        int b = below;
        // Each two steps halve the numbers at least, so 64 are enough for any int.
        for (int step = 0; step < 64 && b != 0; step++) {
            int rest = a % b;
            a = b;
            b = rest;
        }
        return a;
    }

    /** Which pieces stand, of what kinds, and how many cards of each kind there are in all. */
    private static final class Pile {
        private int there;
        /** Two bits a piece; those of a piece that is not there mean nothing. */
        private int kinds;
        private int fell;
        private final int[] cards = new int[KINDS];
        private final int[] loads = new int[PIECES];

        void clear() {
            there = 0;
            kinds = 0;
            fell = 0;
            for (int kind = 0; kind < KINDS; kind++) cards[kind] = 0;
        }

        void copyFrom(Pile other) {
            there = other.there;
            kinds = other.kinds;
            fell = other.fell;
            for (int kind = 0; kind < KINDS; kind++) cards[kind] = other.cards[kind];
        }

        int size() {
            return Integer.bitCount(there);
        }

        boolean has(int piece) {
            return (there >> piece & 1) != 0;
        }

        int kindOf(int piece) {
            return kinds >> 2 * piece & 3;
        }

        int weightOf(int piece) {
            return cardsOf(piece) * cardWeight(kindOf(piece));
        }

        int highestLevel() {
            int level = NONE;
            for (int piece = 0; piece < PIECES; piece++) {
                if (has(piece)) level = LEVEL_OF[piece];
            }
            return level;
        }

        int cardsLeft(int kind) {
            int left = isKind(kind) ? cards[kind] : 0;
            for (int piece = 0; piece < PIECES; piece++) {
                if (has(piece) && kindOf(piece) == kind) left -= cardsOf(piece);
            }
            return left;
        }

        int mostCardsLeft() {
            int most = 0;
            for (int kind = 0; kind < KINDS; kind++) most = Math.max(most, cardsLeft(kind));
            return most;
        }

        /** It is not there, and all that it is on is. */
        boolean hasRoomFor(int piece) {
            return isPiece(piece) && !has(piece) && (UNDER[piece] & ~there) == 0;
        }

        boolean canLay(int piece, int kind) {
            return isKind(kind) && hasRoomFor(piece) && cardsOf(piece) <= cardsLeft(kind);
        }

        void place(int piece, int kind) {
            there |= 1 << piece;
            kinds = kinds & ~(3 << 2 * piece) | kind << 2 * piece;
        }

        int lay(int piece, int kind) {
            place(piece, kind);
            return settle();
        }

        boolean layIfCan(int piece, int kind) {
            if (!canLay(piece, kind)) return false;
            place(piece, kind);
            settle();
            return true;
        }

        boolean canLift(int piece) {
            return has(piece) && goneWith(1 << piece) == 1 << piece;
        }

        void lift(int piece) {
            there &= ~(1 << piece);
        }

        boolean liftIfCan(int piece) {
            if (!isPiece(piece) || !canLift(piece)) return false;
            lift(piece);
            return true;
        }

        int blow(int level, int force) {
            weigh();
            int falling = 0;
            for (int piece = 0; piece < PIECES; piece++) {
                if (isTentOfLevel(piece, level)
                        && steadiness(kindOf(piece), loads[piece]) < FORCE_WEIGHT * force) {
                    falling |= 1 << piece;
                }
            }
            // What falls only takes load from what is left: that stays settled.
            return drop(falling);
        }

        boolean blowIfCan(int level, int force) {
            if (!isLevel(level) || !isForce(force)) return false;
            blow(level, force);
            return true;
        }

        int forceStood(int level) {
            weigh();
            int most = MOST_FORCE;
            for (int piece = 0; piece < PIECES; piece++) {
                if (isTentOfLevel(piece, level)) {
                    most = Math.min(most, steadiness(kindOf(piece), loads[piece]) / FORCE_WEIGHT);
                }
            }
            return most;
        }

        private boolean isTentOfLevel(int piece, int level) {
            return isLevel(level) && (there & TENTS_OF_LEVEL[level] & 1 << piece) != 0;
        }

        int settle() {
            int count = 0;
            // Each round but the last drops a piece at least.
            for (int round = 0; round < PIECES; round++) {
                weigh();
                int weak = 0;
                for (int piece = 0; piece < PIECES; piece++) {
                    if (has(piece) && loads[piece] > BEARS[kindOf(piece)]) weak |= 1 << piece;
                }
                if (weak == 0) break;
                count += drop(weak);
            }
            return count;
        }

        private int drop(int falling) {
            int gone = goneWith(falling);
            there &= ~gone;
            int count = Integer.bitCount(gone);
            fell += count;
            return count;
        }

        /** What is gone if these fall: in one pass upward, as what is on a piece has a higher number. */
        int goneWith(int falling) {
            int gone = falling & there;
            for (int piece = 0; piece < PIECES; piece++) {
                if (has(piece) && (UNDER[piece] & gone) != 0) gone |= 1 << piece;
            }
            return gone;
        }

        int sizeWithout(int falling) {
            return size() - Integer.bitCount(goneWith(falling));
        }

        int missingFor(int wanted) {
            int needed = 1 << wanted;
            for (int piece = PIECES - 1; piece >= 0; piece--) {
                if ((needed >> piece & 1) != 0) needed |= UNDER[piece];
            }
            return needed & ~there;
        }

        int loadOf(int piece) {
            weigh();
            return isPiece(piece) ? loads[piece] : 0;
        }

        /** Loads from the top down; weights are such that each half is whole on all four levels. */
        private void weigh() {
            for (int piece = 0; piece < PIECES; piece++) loads[piece] = 0;
            for (int piece = PIECES - 1; piece >= 0; piece--) {
                if (has(piece)) {
                    int whole = weightOf(piece) + loads[piece];
                    int left = LEFT_UNDER[piece];
                    int right = RIGHT_UNDER[piece];
                    int each = isPiece(right) ? whole / 2 : whole;
                    if (isPiece(left)) loads[left] += each;
                    if (isPiece(right)) loads[right] += each;
                }
            }
        }
    }

    /** The text that tells a house, and the reading of it. */
    private static final class Text {
        private final int[] letters = new int[TEXT_LIMIT];
        private int length;

        void append(int letter) {
            if (length < 0 || length >= TEXT_LIMIT) return;
            letters[length] = letter;
            length++;
        }

        /** Lays the told pieces into a pile, not settled; answers the fault. */
        int readInto(Pile pile) {
            pile.clear();
            for (int place = 0; place < length && place < TEXT_LIMIT; place++) {
                if (!readLetter(pile, place, letters[place])) return place;
            }
            boolean atEnd = length >= HEAD && (length - HEAD) % LETTERS_PER_PIECE == 0;
            return atEnd ? NONE : length;
        }

        private boolean readLetter(Pile pile, int place, int letter) {
            if (place == 0) return letter == 'C';
            if (place < HEAD) return readFigure(pile, place - 1, letter - '0');
            switch ((place - HEAD) % LETTERS_PER_PIECE) {
                case 0: return letter == 'P' && canAnyBeTold(pile);
                case 1: return canBeTold(pile, letter - 'a', pile.mostCardsLeft());
                default: return readKind(pile, letters[place - 1] - 'a', letter - '0');
            }
        }

        private static boolean readFigure(Pile pile, int kind, int figure) {
            if (figure < 0 || figure > 9 || !isKind(kind)) return false;
            pile.cards[kind] = 3 * figure;
            return true;
        }

        private static boolean canAnyBeTold(Pile pile) {
            int most = pile.mostCardsLeft();
            for (int piece = 0; piece < PIECES; piece++) {
                if (canBeTold(pile, piece, most)) return true;
            }
            return false;
        }

        private static boolean canBeTold(Pile pile, int piece, int mostCards) {
            return pile.hasRoomFor(piece) && cardsOf(piece) <= mostCards;
        }

        private static boolean readKind(Pile pile, int piece, int kind) {
            if (!pile.canLay(piece, kind)) return false;
            pile.place(piece, kind);
            return true;
        }
    }

    /** Places at which a pile's pieces, kinds and fallen are remembered. */
    private static final class Shelf {
        private final int size;
        private final int[] there;
        private final int[] kinds;
        private final int[] fell;

        Shelf(int places) {
            size = Math.max(0, places);
            there = new int[size];
            kinds = new int[size];
            fell = new int[size];
        }

        void store(int place, Pile pile) {
            if (place < 0 || place >= size) return;
            there[place] = pile.there;
            kinds[place] = pile.kinds;
            fell[place] = pile.fell;
        }

        void restore(int place, Pile pile) {
            if (place < 0 || place >= size) return;
            pile.there = there[place];
            pile.kinds = kinds[place];
            pile.fell = fell[place];
        }

        void forgetFirst() {
            for (int place = 1; place < size; place++) {
                there[place - 1] = there[place];
                kinds[place - 1] = kinds[place];
                fell[place - 1] = fell[place];
            }
        }
    }

    /** What each of two has by each pair of choices, and which pairs rest. */
    private static final class Contest {
        private final int[] firstHas = new int[CHOICES * CHOICES];
        private final int[] secondHas = new int[CHOICES * CHOICES];

        void note(int first, int second, int firstGain, int secondGain) {
            int pair = CHOICES * first + second;
            if (pair < 0 || pair >= CHOICES * CHOICES) return;
            firstHas[pair] = firstGain;
            secondHas[pair] = secondGain;
        }

        int countAtRest() {
            int count = 0;
            for (int pair = 0; pair < CHOICES * CHOICES; pair++) {
                if (isAtRest(pair)) count++;
            }
            return count;
        }

        int firstAtRest() {
            for (int pair = 0; pair < CHOICES * CHOICES; pair++) {
                if (isAtRest(pair)) return 10 * (pair / CHOICES) + pair % CHOICES;
            }
            return NONE;
        }

        private boolean isAtRest(int pair) {
            int first = pair / CHOICES;
            int second = pair % CHOICES;
            for (int choice = 0; choice < CHOICES; choice++) {
                if (firstHas[CHOICES * choice + second] > firstHas[pair]) return false;
                if (secondHas[CHOICES * first + choice] > secondHas[pair]) return false;
            }
            return true;
        }
    }
}
