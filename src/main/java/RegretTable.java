/**
 * A table at which two learn by regret, in exact fractions: games told by a table of numbers, and a
 * small game of cards with hidden hands. The promises are those of DOC.md.
 */
public final class RegretTable {
    public static final int NONE = -1;

    private static final int NO_GAME = 0;
    private static final int NUMBERS = 1;
    private static final int CARDS = 2;

    private static final int A = 0;
    private static final int B = 1;
    private static final int BOTH = 2;

    private static final int MOST_LINES = 5;
    private static final int GREATEST_NUMBER = 1000;
    private static final int LEAST_DECK = 3;
    private static final int MOST_CARDS = 5;
    private static final int MOST_SLOTS = 8 * MOST_CARDS;
    private static final int GREAT_BITS = 256;

    private static final int BOUND_DECK = 3;
    private static final long GAP_BOUND = 4608;
    private static final int MOST_TIMES = 1000000000;

    private final Reckoner reckoner = new Reckoner();
    private final Learning learning = new Learning(reckoner);
    private final NumberGame numberGame = new NumberGame(reckoner, learning);
    private final CardGame cardGame = new CardGame(reckoner, learning);
    private final Fraction viewed = new Fraction();
    private final Fraction gap = new Fraction();
    private int game = NO_GAME;
    private int rounds;
    private int roundsOfA;
    private int roundsOfB;
    // A round of both depends on nothing but the state: once refused, it stays so until that changes.
    private boolean refused;

    public RegretTable() {
    }

    public boolean table(int rows, int columns) {
        if (!isWithin(rows, 1, MOST_LINES) || !isWithin(columns, 1, MOST_LINES)) {
            return false;
        }
        numberGame.begin(rows, columns);
        begin(NUMBERS);
        return true;
    }

    public boolean set(int row, int column, int v) {
        if (game != NUMBERS || rounds != 0) {
            return false;
        }
        if (!learning.has(A, row) || !learning.has(B, column)
                || !isWithin(v, -GREATEST_NUMBER, GREATEST_NUMBER)) {
            return false;
        }
        numberGame.numbers[row * MOST_LINES + column] = v;
        return true;
    }

    public boolean cards(int n) {
        if (!isWithin(n, LEAST_DECK, MOST_CARDS)) {
            return false;
        }
        cardGame.begin(n);
        begin(CARDS);
        return true;
    }

    public boolean column(int c) {
        if (!playAgainst(A, c)) {
            return false;
        }
        roundsOfA++;
        return true;
    }

    public boolean row(int r) {
        if (!playAgainst(B, r)) {
            return false;
        }
        roundsOfB++;
        return true;
    }

    public int round() {
        if (game == NO_GAME || refused) {
            return NONE;
        }
        boolean fits = game == CARDS ? cardGame.learn() : numberGame.learn();
        if (!fits) {
            refused = true;
            return NONE;
        }
        for (int place = 0; place < learning.places; place++) {
            learning.adopt(place);
        }
        rounds++;
        return rounds;
    }

    public boolean view(int what, int place, int way) {
        if (isWithin(what, 0, 3)) {
            return viewWay(what, place, way);
        }
        boolean isBest = what == 4 && isWithin(place, A, B);
        boolean isGap = what == 5 && place == 0;
        if (game == NO_GAME || way != 0 || !isBest && !isGap) {
            return false;
        }
        int who = isGap ? BOTH : place;
        if (game == CARDS) {
            cardGame.findBest(viewed, who);
        } else {
            numberGame.findBest(viewed, who);
        }
        return true;
    }

    public int size(int what) {
        switch (what) {
            case 0:
                return viewed.top.sign();
            case 1:
                return viewed.top.lengthInBits();
            case 2:
                return viewed.bottom.lengthInBits();
            default:
                return NONE - 1;
        }
    }

    public int bits(int part, int k) {
        if (part == 0) {
            return viewed.top.bitsAt(k);
        }
        return part == 1 ? viewed.bottom.bitsAt(k) : 0;
    }

    public long times(int by) {
        return isWithin(by, 1, MOST_TIMES) ? reckoner.cutTimes(viewed, by) : Long.MIN_VALUE;
    }

    public int bound(int what) {
        switch (what) {
            case 0:
                return boundOfRegret(A, roundsOfA);
            case 1:
                return boundOfRegret(B, roundsOfB);
            case 2:
                if (game != CARDS || cardGame.deck != BOUND_DECK) {
                    return NONE;
                }
                cardGame.findBest(gap, BOTH);
                return reckoner.isSquareWithin(gap, rounds, GAP_BOUND) ? 1 : 0;
            default:
                return NONE;
        }
    }

    public int about(int what) {
        switch (what) {
            case 0:
                return game;
            case 1:
                return game == NUMBERS ? learning.ways(A) : 0;
            case 2:
                return game == NUMBERS ? learning.ways(B) : 0;
            case 3:
                return game == CARDS ? cardGame.deck : 0;
            case 4:
                return rounds;
            case 5:
                return game == NUMBERS ? numberGame.span() : 0;
            case 6:
                return game == NO_GAME ? 0 : learning.longest();
            default:
                return NONE;
        }
    }

    private static boolean isWithin(int value, int least, int greatest) {
        return value >= least && value <= greatest;
    }

    private void begin(int newGame) {
        game = newGame;
        rounds = 0;
        roundsOfA = 0;
        roundsOfB = 0;
        refused = false;
    }

    private boolean playAgainst(int player, int move) {
        if (game != NUMBERS || !learning.has(1 - player, move)) {
            return false;
        }
        if (!numberGame.learnAgainst(player, move)) {
            return false;
        }
        learning.adopt(player);
        rounds++;
        refused = false;
        return true;
    }

    private boolean viewWay(int what, int place, int way) {
        if (game == NO_GAME || !learning.has(place, way)) {
            return false;
        }
        int slot = learning.slot(place, way);
        Fraction[] learned = what == 0 || what == 2 ? learning.regrets : learning.sums;
        if (what <= 1) {
            viewed.copy(learned[slot]);
        } else {
            learning.findParts(place, learned);
            viewed.copy(learning.parts[slot]);
        }
        return true;
    }

    private int boundOfRegret(int player, int roundsOfPlayer) {
        if (game != NUMBERS || roundsOfPlayer != rounds) {
            return NONE;
        }
        long span = numberGame.span();
        long limit = span * span * learning.ways(player) * rounds;
        Fraction greatest = learning.greatestRegret(player);
        return greatest.top.sign() <= 0 || reckoner.isSquareWithin(greatest, 1, limit) ? 1 : 0;
    }

    /**
     * A whole number of any length with a sign, in words of 31 bits, the lowest first: so the product
     * of two words and what is carried fit a long without a care for its sign.
     */
    private static final class Whole {
        static final int WORD_BITS = 31;
        static final long WORD = 0x7FFFFFFFL;
        private static final int FIRST_ROOM = 4;
        private static final int WORDS_OF_LONG = 3;

        int[] words = new int[FIRST_ROOM];
        int used;
        boolean negative;

        /** Grows by more than is needed, so that a number that grows often is seldom copied. */
        void room(int needed) {
            if (needed <= words.length) {
                return;
            }
            int[] larger = new int[needed + (needed >> 1)];
            for (int i = 0; i < words.length; i++) {
                larger[i] = words[i];
            }
            words = larger;
        }

        void settle(int from) {
            int top = from;
            while (top > 0 && words[top - 1] == 0) {
                top--;
            }
            used = top;
            if (top == 0) {
                negative = false;
            }
        }

        void clear() {
            used = 0;
            negative = false;
        }

        void become(long value) {
            long left = value < 0 ? -value : value;
            for (int i = 0; i < WORDS_OF_LONG; i++) {
                words[i] = (int) (left & WORD);
                left >>>= WORD_BITS;
            }
            negative = value < 0;
            settle(WORDS_OF_LONG);
        }

        void copy(Whole other) {
            room(other.used);
            for (int i = 0; i < other.used; i++) {
                words[i] = other.words[i];
            }
            used = other.used;
            negative = other.negative;
        }

        int sign() {
            if (used == 0) {
                return 0;
            }
            return negative ? -1 : 1;
        }

        boolean isOneWithoutSign() {
            return used == 1 && words[0] == 1;
        }

        int lengthInBits() {
            if (used == 0) {
                return 0;
            }
            return used * WORD_BITS + 1 - Integer.numberOfLeadingZeros(words[used - 1]);
        }

        /** The k-th 32 bits: they lie in two words at the most, for a word has 31. */
        int bitsAt(int k) {
            long first = 32L * k;
            if (k < 0 || first >= (long) used * WORD_BITS) {
                return 0;
            }
            int at = (int) (first / WORD_BITS);
            int skipped = (int) (first % WORD_BITS);
            long high = at + 1 < used ? words[at + 1] : 0;
            return (int) (high << (WORD_BITS - skipped) | words[at] >> skipped);
        }

        /** The number without its sign, if that is below 2 to the power of 62. */
        long lowest() {
            long low = used > 0 ? words[0] : 0;
            long high = used > 1 ? words[1] : 0;
            return high << WORD_BITS | low;
        }

        int compareSize(Whole other) {
            if (used != other.used) {
                return used < other.used ? -1 : 1;
            }
            for (int i = used - 1; i >= 0; i--) {
                if (words[i] != other.words[i]) {
                    return words[i] < other.words[i] ? -1 : 1;
                }
            }
            return 0;
        }

        /** This number must be neither a nor b: it is written while they are read. */
        void product(Whole a, Whole b) {
            int length = a.used + b.used;
            room(length);
            for (int i = 0; i < length; i++) {
                words[i] = 0;
            }
            for (int i = 0; i < a.used; i++) {
                long factor = a.words[i];
                long carry = 0;
                for (int k = 0; k < b.used; k++) {
                    carry += factor * b.words[k] + words[i + k];
                    words[i + k] = (int) (carry & WORD);
                    carry >>= WORD_BITS;
                }
                words[i + b.used] = (int) carry;
            }
            negative = a.negative != b.negative;
            settle(length);
        }

        void increase(Whole by) {
            int length = (used > by.used ? used : by.used) + 1;
            room(length);
            boolean alike = negative == by.negative;
            boolean larger = compareSize(by) >= 0;
            long mine = alike || larger ? 1 : -1;
            long other = alike || !larger ? 1 : -1;
            long carry = 0;
            for (int i = 0; i < length; i++) {
                long word = i < used ? words[i] : 0;
                long added = i < by.used ? by.words[i] : 0;
                carry += mine * word + other * added;
                words[i] = (int) (carry & WORD);
                carry >>= WORD_BITS;
            }
            if (!larger) {
                negative = by.negative;
            }
            settle(length);
        }
    }

    /** In lowest terms, the bottom above 0: whoever writes the two parts keeps to that. */
    private static final class Fraction {
        Whole top = new Whole();
        Whole bottom = new Whole();

        Fraction() {
            bottom.become(1);
        }

        void become(int above, int below) {
            top.become(above);
            bottom.become(below);
        }

        void copy(Fraction other) {
            top.copy(other.top);
            bottom.copy(other.bottom);
        }

        /** 1 over the fraction, which must be above 0. */
        void turnOver() {
            Whole above = bottom;
            bottom = top;
            top = above;
        }

        int longest() {
            return Math.max(top.lengthInBits(), bottom.lengthInBits());
        }
    }

    /** Reckons with fractions, and keeps the numbers that are needed on the way for use again. */
    private static final class Reckoner {
        private static final int MOST_STEPS = 1000000;
        // A word times this, twice, stays far inside a long.
        private static final long MOST_FACTOR = 1L << 30;
        private static final int MOST_QUOTIENTS = 64;
        private static final int MOST_LONG_STEPS = 100;

        private final Whole common = new Whole();
        private final Whole quotient = new Whole();
        private final Whole rest = new Whole();
        private final Whole greater = new Whole();
        private final Whole lesser = new Whole();
        private final Whole shared = new Whole();
        private final Whole left = new Whole();
        private final Whole right = new Whole();
        private final Whole first = new Whole();
        private final Whole second = new Whole();
        private final Whole scale = new Whole();
        private final long[] factors = new long[4];

        /**
         * Adds by * factor to a fraction. With g common to both bottoms, and e to the factor and what
         * is left of by's bottom, the sum's top can have nothing in common with the bottom but what it
         * has with g * e: that is mostly small, where the bottom itself is long.
         */
        void addTimes(Fraction to, Fraction by, int factor) {
            if (factor == 0 || by.top.used == 0) {
                return;
            }
            findCommon(to.bottom, by.bottom);
            first.copy(common);
            divideOut(to.bottom, first, left);
            divideOut(by.bottom, first, right);
            scale.become(factor);
            findCommon(right, scale);
            shared.product(first, common);
            first.product(by.top, scale);
            second.product(first, left);
            first.product(to.top, right);
            first.increase(second);
            if (first.used == 0) {
                to.become(0, 1);
                return;
            }
            findCommon(first, shared);
            divideOut(first, common, to.top);
            divideOut(by.bottom, common, right);
            to.bottom.product(left, right);
        }

        /** What each top has in common with the other bottom is left out first: so the numbers stay short. */
        void multiply(Fraction to, Fraction by) {
            findCommon(to.top, by.bottom);
            divideOut(to.top, common, first);
            divideOut(by.bottom, common, right);
            findCommon(by.top, to.bottom);
            divideOut(by.top, common, second);
            divideOut(to.bottom, common, left);
            to.top.product(first, second);
            to.bottom.product(left, right);
        }

        void keepGreater(Fraction of, Fraction other) {
            first.product(of.top, other.bottom);
            second.product(other.top, of.bottom);
            second.negative = !second.negative;
            first.increase(second);
            if (first.sign() < 0) {
                of.copy(other);
            }
        }

        /** Tells if the square of a fraction, times a count, is not above a limit. */
        boolean isSquareWithin(Fraction fraction, long count, long limit) {
            first.product(fraction.top, fraction.top);
            scale.become(count);
            left.product(first, scale);
            second.product(fraction.bottom, fraction.bottom);
            scale.become(limit);
            right.product(second, scale);
            return left.compareSize(right) <= 0;
        }

        long cutTimes(Fraction fraction, int factor) {
            scale.become(factor);
            rest.product(fraction.top, scale);
            divide(rest, fraction.bottom);
            if (quotient.lengthInBits() > 63) {
                return Long.MIN_VALUE;
            }
            long high = quotient.used > 2 ? quotient.words[2] : 0;
            long value = high << 2 * Whole.WORD_BITS | quotient.lowest();
            return fraction.top.negative ? -value : value;
        }

        /** The quotient of a division, by a number above 0, that leaves nothing. */
        private void divideOut(Whole number, Whole by, Whole into) {
            if (by.isOneWithoutSign()) {
                into.copy(number);
                return;
            }
            rest.copy(number);
            divide(rest, by);
            boolean negative = number.negative;
            into.copy(quotient);
            into.negative = negative;
        }

        /** Leaves in common what two numbers, not both 0, have in common. */
        private void findCommon(Whole a, Whole b) {
            if (a.isOneWithoutSign() || b.isOneWithoutSign()) {
                common.become(1);
                return;
            }
            if (a.used <= 2 && b.used <= 2) {
                common.become(commonOf(a.lowest(), b.lowest()));
                return;
            }
            boolean inOrder = a.compareSize(b) >= 0;
            Whole large = greater;
            Whole small = lesser;
            large.copy(inOrder ? a : b);
            small.copy(inOrder ? b : a);
            for (int i = 0; i < MOST_STEPS && small.used > 2; i++) {
                if (findFactors(large, small)) {
                    combine(large, small);
                } else {
                    divide(large, small);
                    Whole divided = large;
                    large = small;
                    small = divided;
                }
            }
            if (small.used == 0) {
                common.copy(large);
                common.negative = false;
                return;
            }
            divide(large, small);
            common.become(commonOf(small.lowest(), large.lowest()));
        }

        private static long commonOf(long a, long b) {
            long above = a;
            long below = b;
            for (int i = 0; i < MOST_LONG_STEPS && below != 0; i++) {
                long left = above % below;
                above = below;
                below = left;
            }
            return above;
        }

        /**
         * The factors that do some twenty of Euclid's steps at once (Lehmer): their quotients are told
         * from the leading 62 bits alone, as long as the least and the greatest value that the bits
         * left out allow agree on them. False if not even the first quotient can be told.
         */
        private boolean findFactors(Whole large, Whole small) {
            int end = large.used;
            if (end == 0) {
                return false;
            }
            int shift = Integer.numberOfLeadingZeros(large.words[end - 1]) - 1;
            long x = leading(large, end, shift);
            long y = leading(small, end, shift);
            long a = 1;
            long b = 0;
            long c = 0;
            long d = 1;
            for (int i = 0; i < MOST_QUOTIENTS && y + c > 0 && y + d > 0; i++) {
                long q = (x + a) / (y + c);
                if (q != (x + b) / (y + d) || q > MOST_FACTOR) {
                    break;
                }
                long nextC = a - q * c;
                long nextD = b - q * d;
                if (Math.abs(nextC) > MOST_FACTOR || Math.abs(nextD) > MOST_FACTOR) {
                    break;
                }
                long nextY = x - q * y;
                a = c;
                b = d;
                x = y;
                c = nextC;
                d = nextD;
                y = nextY;
            }
            factors[0] = a;
            factors[1] = b;
            factors[2] = c;
            factors[3] = d;
            return b != 0;
        }

        /** The 62 bits that lie below the word at an end, moved up by a shift. */
        private static long leading(Whole number, int end, int shift) {
            long high = end >= 1 && end <= number.used ? number.words[end - 1] : 0;
            long middle = end >= 2 && end - 1 <= number.used ? number.words[end - 2] : 0;
            long low = end >= 3 && end - 2 <= number.used ? number.words[end - 3] : 0;
            long both = high << Whole.WORD_BITS | middle;
            return both << shift | low >> (Whole.WORD_BITS - shift);
        }

        /** Puts both numbers together by the factors: neither comes out below 0, nor longer than large. */
        private void combine(Whole large, Whole small) {
            long a = factors[0];
            long b = factors[1];
            long c = factors[2];
            long d = factors[3];
            int length = large.used;
            small.room(length);
            long upper = 0;
            long lower = 0;
            for (int i = 0; i < length; i++) {
                long x = large.words[i];
                long y = i < small.used ? small.words[i] : 0;
                upper += a * x + b * y;
                lower += c * x + d * y;
                large.words[i] = (int) (upper & Whole.WORD);
                small.words[i] = (int) (lower & Whole.WORD);
                upper >>= Whole.WORD_BITS;
                lower >>= Whole.WORD_BITS;
            }
            large.settle(length);
            small.settle(length);
        }

        /**
         * Leaves the quotient in its place and what is left in the number itself, by long division
         * with a guess at each word (Knuth's D); signs count for nothing.
         */
        private void divide(Whole number, Whole by) {
            int length = by.used;
            int places = number.used - length + 1;
            if (length == 0 || places <= 0) {
                quotient.clear();
                return;
            }
            quotient.room(places);
            int shift = Integer.numberOfLeadingZeros(by.words[length - 1]) - 1;
            long lead = leading(by, length, shift);
            for (int at = places - 1; at >= 0; at--) {
                long guess = guessWord(number, at + length, shift, lead);
                if (guess != 0 && takeAway(number, by, at, guess)) {
                    putBack(number, by, at);
                    guess--;
                }
                quotient.words[at] = (int) guess;
            }
            quotient.negative = false;
            quotient.settle(places);
            number.settle(number.used);
        }

        /** A word of the quotient, or 1 above it. */
        private static long guessWord(Whole number, int end, int shift, long lead) {
            int unshift = Whole.WORD_BITS - shift;
            long word0 = end < number.used ? number.words[end] : 0;
            long word1 = end >= 1 ? number.words[end - 1] : 0;
            long word2 = end >= 2 ? number.words[end - 2] : 0;
            long word3 = end >= 3 ? number.words[end - 3] : 0;
            long high = (word0 << Whole.WORD_BITS | word1) << shift | word2 >> unshift;
            long third = (word2 << shift | word3 >> unshift) & Whole.WORD;
            long divisor = lead >> Whole.WORD_BITS;
            long second = lead & Whole.WORD;
            if (divisor <= 0) {
                return 0;
            }
            long guess = high / divisor;
            if (guess > Whole.WORD) {
                guess = Whole.WORD;
            }
            long left = high - guess * divisor;
            for (int i = 0; i < 3 && left <= Whole.WORD
                    && guess * second > (left << Whole.WORD_BITS | third); i++) {
                guess--;
                left += divisor;
            }
            return guess;
        }

        /** Takes by * guess off the number's words from a place on; tells if that was too much. */
        private static boolean takeAway(Whole number, Whole by, int at, long guess) {
            long carry = 0;
            for (int i = 0; i < by.used; i++) {
                carry += number.words[at + i] - guess * by.words[i];
                number.words[at + i] = (int) (carry & Whole.WORD);
                carry >>= Whole.WORD_BITS;
            }
            int end = at + by.used;
            if (end < number.used) {
                carry += number.words[end];
                number.words[end] = (int) (carry & Whole.WORD);
                carry >>= Whole.WORD_BITS;
            }
            return carry < 0;
        }

        private static void putBack(Whole number, Whole by, int at) {
            long carry = 0;
            for (int i = 0; i < by.used; i++) {
                carry += (long) number.words[at + i] + by.words[i];
                number.words[at + i] = (int) (carry & Whole.WORD);
                carry >>= Whole.WORD_BITS;
            }
            int end = at + by.used;
            if (end < number.used) {
                number.words[end] = (int) (number.words[end] + carry & Whole.WORD);
            }
        }
    }

    /**
     * What is learned at the places of a game, a slot for each way. What a round would make of it is
     * held apart until it is known that nothing of it is great.
     */
    private static final class Learning {
        private final Reckoner reckoner;
        final Fraction[] regrets = new Fraction[MOST_SLOTS];
        final Fraction[] sums = new Fraction[MOST_SLOTS];
        private final Fraction[] nextRegrets = new Fraction[MOST_SLOTS];
        private final Fraction[] nextSums = new Fraction[MOST_SLOTS];
        /** The mix or the mean at each place, whichever was found last. */
        final Fraction[] parts = new Fraction[MOST_SLOTS];
        final Fraction[] worths = new Fraction[MOST_SLOTS];
        private final Fraction total = new Fraction();
        private final Fraction average = new Fraction();
        private final Fraction change = new Fraction();
        int places;
        private int stride;
        private int waysAtFirst;
        private int waysElsewhere;

        Learning(Reckoner reckoner) {
            this.reckoner = reckoner;
            for (int slot = 0; slot < MOST_SLOTS; slot++) {
                regrets[slot] = new Fraction();
                sums[slot] = new Fraction();
                nextRegrets[slot] = new Fraction();
                nextSums[slot] = new Fraction();
                parts[slot] = new Fraction();
                worths[slot] = new Fraction();
            }
        }

        void begin(int newPlaces, int newStride, int first, int elsewhere) {
            places = newPlaces;
            stride = newStride;
            waysAtFirst = first;
            waysElsewhere = elsewhere;
            for (int slot = 0; slot < MOST_SLOTS; slot++) {
                regrets[slot].become(0, 1);
                sums[slot].become(0, 1);
            }
        }

        int ways(int place) {
            return place == 0 ? waysAtFirst : waysElsewhere;
        }

        boolean has(int place, int way) {
            return isWithin(place, 0, places - 1) && isWithin(way, 0, ways(place) - 1);
        }

        int slot(int place, int way) {
            return place * stride + way;
        }

        void findParts(int place, Fraction[] learned) {
            int from = slot(place, 0);
            int count = ways(place);
            total.become(0, 1);
            for (int slot = from; slot < from + count; slot++) {
                if (learned[slot].top.sign() > 0) {
                    reckoner.addTimes(total, learned[slot], 1);
                }
            }
            boolean isAny = total.top.sign() > 0;
            if (isAny) {
                total.turnOver();
            }
            for (int slot = from; slot < from + count; slot++) {
                if (!isAny) {
                    parts[slot].become(1, count);
                } else if (learned[slot].top.sign() > 0) {
                    parts[slot].copy(learned[slot]);
                    reckoner.multiply(parts[slot], total);
                } else {
                    parts[slot].become(0, 1);
                }
            }
        }

        void findAllParts(Fraction[] learned) {
            for (int place = 0; place < places; place++) {
                findParts(place, learned);
            }
        }

        /** As if the one at a place played nothing but a told way. */
        void setCertain(int place, int way) {
            for (int other = 0; other < ways(place); other++) {
                parts[slot(place, other)].become(other == way ? 1 : 0, 1);
            }
        }

        void clearWorths() {
            for (int slot = 0; slot < MOST_SLOTS; slot++) {
                worths[slot].become(0, 1);
            }
        }

        /** What a round makes of a place, by its parts and worths; false if any of it is great. */
        boolean learnAt(int place, Fraction[] played) {
            int from = slot(place, 0);
            int end = from + ways(place);
            average.become(0, 1);
            for (int slot = from; slot < end; slot++) {
                change.copy(parts[slot]);
                reckoner.multiply(change, worths[slot]);
                reckoner.addTimes(average, change, 1);
            }
            for (int slot = from; slot < end; slot++) {
                change.copy(worths[slot]);
                reckoner.addTimes(change, average, -1);
                nextRegrets[slot].copy(regrets[slot]);
                reckoner.addTimes(nextRegrets[slot], change, 1);
                nextSums[slot].copy(sums[slot]);
                reckoner.addTimes(nextSums[slot], played[slot], 1);
                if (nextRegrets[slot].longest() > GREAT_BITS || nextSums[slot].longest() > GREAT_BITS) {
                    return false;
                }
            }
            return true;
        }

        void adopt(int place) {
            for (int way = 0; way < ways(place); way++) {
                int slot = slot(place, way);
                regrets[slot].copy(nextRegrets[slot]);
                sums[slot].copy(nextSums[slot]);
            }
        }

        Fraction greatestRegret(int place) {
            change.copy(regrets[slot(place, 0)]);
            for (int way = 1; way < ways(place); way++) {
                reckoner.keepGreater(change, regrets[slot(place, way)]);
            }
            return change;
        }

        int longest() {
            int most = 0;
            for (int place = 0; place < places; place++) {
                for (int way = 0; way < ways(place); way++) {
                    int slot = slot(place, way);
                    most = Math.max(most, regrets[slot].longest());
                    most = Math.max(most, sums[slot].longest());
                }
            }
            return most;
        }
    }

    /** A game told by a table of numbers; its places are the players themselves. */
    private static final class NumberGame {
        private final Reckoner reckoner;
        private final Learning learning;
        final int[] numbers = new int[MOST_LINES * MOST_LINES];
        private final Fraction greatest = new Fraction();

        NumberGame(Reckoner reckoner, Learning learning) {
            this.reckoner = reckoner;
            this.learning = learning;
        }

        void begin(int rows, int columns) {
            for (int i = 0; i < numbers.length; i++) {
                numbers[i] = 0;
            }
            learning.begin(2, MOST_LINES, rows, columns);
        }

        int span() {
            int least = GREATEST_NUMBER;
            int most = -GREATEST_NUMBER;
            for (int row = 0; row < learning.ways(A); row++) {
                for (int column = 0; column < learning.ways(B); column++) {
                    int number = numbers[row * MOST_LINES + column];
                    least = Math.min(least, number);
                    most = Math.max(most, number);
                }
            }
            return most - least;
        }

        private int gain(int player, int way, int otherWay) {
            return player == A ? numbers[way * MOST_LINES + otherWay]
                    : -numbers[otherWay * MOST_LINES + way];
        }

        /** What each of a player's ways gets, by the other's parts. */
        private void reckonWorths(int player) {
            int other = 1 - player;
            for (int way = 0; way < learning.ways(player); way++) {
                Fraction worth = learning.worths[learning.slot(player, way)];
                worth.become(0, 1);
                for (int otherWay = 0; otherWay < learning.ways(other); otherWay++) {
                    Fraction part = learning.parts[learning.slot(other, otherWay)];
                    reckoner.addTimes(worth, part, gain(player, way, otherWay));
                }
            }
        }

        boolean learnAgainst(int player, int move) {
            learning.findParts(player, learning.regrets);
            learning.setCertain(1 - player, move);
            reckonWorths(player);
            return learning.learnAt(player, learning.parts);
        }

        boolean learn() {
            learning.findAllParts(learning.regrets);
            reckonWorths(A);
            reckonWorths(B);
            return learning.learnAt(A, learning.parts) && learning.learnAt(B, learning.parts);
        }

        void findBest(Fraction best, int who) {
            learning.findAllParts(learning.sums);
            best.become(0, 1);
            for (int player = A; player <= B; player++) {
                if (who == player || who == BOTH) {
                    reckonWorths(player);
                    greatest.copy(learning.worths[learning.slot(player, 0)]);
                    for (int way = 1; way < learning.ways(player); way++) {
                        reckoner.keepGreater(greatest, learning.worths[learning.slot(player, way)]);
                    }
                    reckoner.addTimes(best, greatest, 1);
                }
            }
        }
    }

    /** The game of cards. A card's slots lie together: two ways at each of its four places. */
    private static final class CardGame {
        private static final int PLACES = 4;
        private static final int SLOTS = 8;
        private static final int FIRST_PASS = 0;
        private static final int FIRST_BET = 1;
        private static final int PASSED_PASS = 2;
        private static final int PASSED_BET = 3;
        private static final int RAISED_GIVE_UP = 4;
        private static final int RAISED_CALL = 5;
        private static final int BACK_GIVE_UP = 6;
        private static final int BACK_CALL = 7;

        private final Reckoner reckoner;
        private final Learning learning;
        /**
         * The chance that a player, holding the card, itself plays so as to come to a place and goes
         * this way there. But for A's second places that is the part itself, and so the same object.
         */
        private final Fraction[] played = new Fraction[MOST_SLOTS];
        private final Fraction chance = new Fraction();
        private final Fraction onward = new Fraction();
        private final Fraction greatest = new Fraction();
        int deck;

        CardGame(Reckoner reckoner, Learning learning) {
            this.reckoner = reckoner;
            this.learning = learning;
            for (int slot = 0; slot < MOST_SLOTS; slot++) {
                played[slot] = slot % SLOTS < BACK_GIVE_UP ? learning.parts[slot] : new Fraction();
            }
        }

        void begin(int n) {
            deck = n;
            chance.become(1, n * (n - 1));
            learning.begin(PLACES * n, 2, 2, 2);
        }

        private void findPlayed() {
            for (int card = 0; card < deck; card++) {
                int at = SLOTS * card;
                for (int slot = at + BACK_GIVE_UP; slot <= at + BACK_CALL; slot++) {
                    played[slot].copy(learning.parts[slot]);
                    reckoner.multiply(played[slot], learning.parts[at + FIRST_PASS]);
                }
            }
        }

        /** Adds what a way gets where the other, over all its cards, has played so. */
        private void addWorth(int card, int way, int otherPlayed, int won, int lost) {
            Fraction worth = learning.worths[SLOTS * card + way];
            for (int other = 0; other < deck; other++) {
                if (other != card) {
                    Fraction chanceOfOther = played[SLOTS * other + otherPlayed];
                    reckoner.addTimes(worth, chanceOfOther, card > other ? won : lost);
                }
            }
        }

        /** Without the chance of a pair; and A's first pass without what A gets behind B's bet. */
        private void reckonWorthsOfA() {
            for (int card = 0; card < deck; card++) {
                addWorth(card, FIRST_PASS, PASSED_PASS, 1, -1);
                addWorth(card, FIRST_BET, RAISED_GIVE_UP, 1, 1);
                addWorth(card, FIRST_BET, RAISED_CALL, 2, -2);
                addWorth(card, BACK_GIVE_UP, PASSED_BET, -1, -1);
                addWorth(card, BACK_CALL, PASSED_BET, 2, -2);
            }
        }

        private void reckonWorthsOfB() {
            for (int card = 0; card < deck; card++) {
                addWorth(card, PASSED_PASS, FIRST_PASS, 1, -1);
                addWorth(card, PASSED_BET, BACK_GIVE_UP, 1, 1);
                addWorth(card, PASSED_BET, BACK_CALL, 2, -2);
                addWorth(card, RAISED_GIVE_UP, FIRST_BET, -1, -1);
                addWorth(card, RAISED_CALL, FIRST_BET, 2, -2);
            }
        }

        private void goOnByParts() {
            for (int card = 0; card < deck; card++) {
                int at = SLOTS * card;
                for (int slot = at + BACK_GIVE_UP; slot <= at + BACK_CALL; slot++) {
                    onward.copy(learning.worths[slot]);
                    reckoner.multiply(onward, learning.parts[slot]);
                    reckoner.addTimes(learning.worths[at + FIRST_PASS], onward, 1);
                }
            }
        }

        boolean learn() {
            learning.findAllParts(learning.regrets);
            findPlayed();
            learning.clearWorths();
            reckonWorthsOfA();
            reckonWorthsOfB();
            goOnByParts();
            for (int slot = 0; slot < SLOTS * deck; slot++) {
                reckoner.multiply(learning.worths[slot], chance);
            }
            for (int place = 0; place < learning.places; place++) {
                if (!learning.learnAt(place, played)) {
                    return false;
                }
            }
            return true;
        }

        void findBest(Fraction best, int who) {
            learning.findAllParts(learning.sums);
            findPlayed();
            learning.clearWorths();
            best.become(0, 1);
            if (who != B) {
                reckonWorthsOfA();
                addBestOfA(best);
            }
            if (who != A) {
                reckonWorthsOfB();
                addBestOfB(best);
            }
            reckoner.multiply(best, chance);
        }

        private void addBestOfA(Fraction best) {
            for (int card = 0; card < deck; card++) {
                int at = SLOTS * card;
                findGreater(at + BACK_GIVE_UP);
                reckoner.addTimes(learning.worths[at + FIRST_PASS], greatest, 1);
                findGreater(at + FIRST_PASS);
                reckoner.addTimes(best, greatest, 1);
            }
        }

        private void addBestOfB(Fraction best) {
            for (int card = 0; card < deck; card++) {
                int at = SLOTS * card;
                findGreater(at + PASSED_PASS);
                reckoner.addTimes(best, greatest, 1);
                findGreater(at + RAISED_GIVE_UP);
                reckoner.addTimes(best, greatest, 1);
            }
        }

        private void findGreater(int slot) {
            greatest.copy(learning.worths[slot]);
            reckoner.keepGreater(greatest, learning.worths[slot + 1]);
        }
    }
}
