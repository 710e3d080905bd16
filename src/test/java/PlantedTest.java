import java.math.BigInteger;

/**
 * Edges of the document that no 512 calls lead to: numbers of exactly 2 to the power of 256, a product that
 * is too large for times(), bounds that do not hold. The fractions for them are put into the object.
 */
public final class PlantedTest {
    private static final BigInteger ONE = BigInteger.ONE;
    private static final BigInteger TWO = BigInteger.TWO;
    private static final BigInteger GREAT = ONE.shiftLeft(256);
    private static final BigInteger LARGEST = GREAT.subtract(ONE);

    private static final Check CHECK = new Check("PlantedTest");

    public static void main(String[] args) {
        if (!Inside.isKnown()) {
            System.out.println("PlantedTest: the class is built otherwise inside, nothing can be put into it");
            return;
        }
        CHECK.test("GREAT: a numerator of an R above 0", PlantedTest::regretAbove);
        CHECK.test("GREAT: a numerator of an R below 0, without its sign", PlantedTest::regretBelow);
        CHECK.test("GREAT: a numerator of a SUM", PlantedTest::sumTop);
        CHECK.test("GREAT: a denominator of a SUM", PlantedTest::sumBottom);
        CHECK.test("GREAT: a denominator of an R", PlantedTest::regretBottom);
        CHECK.test("GREAT: it is looked at in lowest terms", PlantedTest::lowestTerms);
        CHECK.test("9, 10: 2 to the power of 256 less 1 is seen whole", PlantedTest::largestSeen);
        CHECK.test("11: 9223372036854775807 with either sign", PlantedTest::largestTimes);
        CHECK.test("11: above 9223372036854775807 with either sign", PlantedTest::tooLargeTimes);
        CHECK.test("11: it is the cut number that counts", PlantedTest::cutTimes);
        CHECK.test("11: by 1000000000", PlantedTest::timesByMost);
        CHECK.test("12: what 0: the square at the bound, and above it", () -> squares(0));
        CHECK.test("12: what 1: the square at the bound, and above it", () -> squares(1));
        CHECK.test("12: what 0, 1: an R below 0 is not squared", PlantedTest::noSquareBelowZero);
        CHECK.test("12: what 0, 1: the greatest R of all ways", PlantedTest::greatestOfAllWays);
        CHECK.test("12: what 2: 4608, and above it", PlantedTest::gaps);
        CHECK.end();
    }

    private static RegretTable table(int rows, int columns, int... numbers) {
        RegretTable t = new RegretTable();
        t.table(rows, columns);
        for (int i = 0; i < numbers.length; i++) {
            t.set(i / columns, i % columns, numbers[i]);
        }
        return t;
    }

    private static void regret(RegretTable t, int way, BigInteger number) {
        Inside.putLearned(t, "regrets", 0, way, number, ONE);
    }

    /** Two like R are mixed by halves: one gets half of what the rows differ by, the other gives it. */
    private static void regretAbove() {
        for (int more = 1; more <= 2; more++) {
            RegretTable t = table(2, 1, 2 * more, 0);
            regret(t, 0, LARGEST.subtract(ONE));
            regret(t, 1, LARGEST.subtract(ONE));
            CHECK.due("R becomes 2 ** 256 - 2 + " + more, t.column(0), more == 1);
            CHECK.due("rounds", t.about(4), more == 1 ? 1 : 0);
            CHECK.due("bits", t.about(6), 256);
        }
    }

    /** Row 0 alone is above 0 and played: row 1 loses what it is worth less. */
    private static void regretBelow() {
        for (int less = 1; less <= 2; less++) {
            RegretTable t = table(2, 1, less, 0);
            regret(t, 0, ONE);
            regret(t, 1, LARGEST.subtract(ONE).negate());
            CHECK.due("R becomes -(2 ** 256 - 2) - " + less, t.column(0), less == 1);
            CHECK.due("rounds", t.about(4), less == 1 ? 1 : 0);
            CHECK.due("bits", t.about(6), 256);
        }
    }

    private static void sumTop() {
        RegretTable t = table(1, 1);
        Inside.putLearned(t, "sums", 0, 0, LARGEST.subtract(ONE), ONE);
        CHECK.due("SUM becomes 2 ** 256 - 1", t.column(0), true);
        CHECK.due("SUM would become 2 ** 256", t.column(0), false);
        CHECK.due("round() too", t.round(), RegretTable.NONE);
        CHECK.due("row() is B's", t.row(0), true);
        CHECK.due("rounds", t.about(4), 2);
        t.view(1, 0, 0);
        CHECK.due("bits of SUM", t.size(1), 256);
    }

    /** R of 1 and n - 1 are mixed by 1 / n. */
    private static void sumBottom() {
        RegretTable t = table(2, 1);
        regret(t, 0, ONE);
        regret(t, 1, LARGEST.subtract(ONE));
        CHECK.due("SUM becomes 1 / (2 ** 256 - 1)", t.column(0), true);
        t.view(1, 0, 0);
        CHECK.due("bits of the denominator", t.size(2), 256);
        t = table(2, 1);
        regret(t, 0, ONE);
        regret(t, 1, LARGEST);
        CHECK.due("SUM would become 1 / 2 ** 256", t.column(0), false);
        t.view(1, 0, 0);
        CHECK.due("SUM is still 0", t.size(1), 0);
    }

    /** B's MIX is 1 / n and the rest of 1, and B's SUM is what is left to 1: of A alone R comes to 1 / n. */
    private static void regretBottom() {
        for (BigInteger n : new BigInteger[] {LARGEST, GREAT}) {
            RegretTable t = table(2, 2, 1, 0, -1, 0);
            Inside.putLearned(t, "regrets", 1, 0, ONE, ONE);
            Inside.putLearned(t, "regrets", 1, 1, n.subtract(ONE), ONE);
            Inside.putLearned(t, "sums", 1, 0, n.subtract(ONE), n);
            Inside.putLearned(t, "sums", 1, 1, ONE, n);
            boolean fits = n.equals(LARGEST);
            CHECK.due("R becomes 1 / " + n, t.round(), fits ? 1 : RegretTable.NONE);
            t.view(0, 0, 0);
            CHECK.due("bits of the denominator", t.size(2), fits ? 256 : 1);
        }
    }

    private static void lowestTerms() {
        RegretTable t = table(2, 1, 2, 0);
        Inside.putLearned(t, "sums", 0, 0, LARGEST.subtract(TWO), TWO);
        Inside.putLearned(t, "sums", 0, 1, LARGEST, TWO);
        CHECK.due("halves become wholes", t.column(0), true);
        t.view(1, 0, 0);
        CHECK.due("bits of SUM", t.size(1), 255);
        CHECK.due("bits of its denominator", t.size(2), 1);
    }

    private static void largestSeen() {
        RegretTable t = new RegretTable();
        for (int sign = -1; sign <= 1; sign += 2) {
            Inside.putView(t, LARGEST.multiply(BigInteger.valueOf(sign)), GREAT);
            CHECK.due("sign", t.size(0), sign);
            CHECK.due("bits of 2 ** 256 - 1", t.size(1), 256);
            CHECK.due("bits of 2 ** 256", t.size(2), 257);
            for (int k = 0; k < 10; k++) {
                CHECK.due("numerator, part " + k, t.bits(0, k), k < 8 ? -1 : 0);
                CHECK.due("denominator, part " + k, t.bits(1, k), k == 8 ? 1 : 0);
            }
        }
    }

    private static void times(BigInteger top, BigInteger bottom, int by, long want) {
        RegretTable t = new RegretTable();
        Inside.putView(t, top, bottom);
        CHECK.due(top + " / " + bottom + ", times " + by, t.times(by), want);
        Inside.putView(t, top.negate(), bottom);
        CHECK.due("-" + top + " / " + bottom + ", times " + by, t.times(by), want == Long.MIN_VALUE ? want : -want);
    }

    private static void largestTimes() {
        BigInteger most = BigInteger.valueOf(Long.MAX_VALUE);
        times(most, ONE, 1, Long.MAX_VALUE);
        times(most.subtract(ONE), ONE, 1, Long.MAX_VALUE - 1);
        times(most, BigInteger.TEN, 10, Long.MAX_VALUE);
        times(ONE.shiftLeft(62), ONE, 1, 1L << 62);
        times(ONE.shiftLeft(62).subtract(ONE), ONE, 1, (1L << 62) - 1);
    }

    private static void tooLargeTimes() {
        BigInteger beyond = BigInteger.valueOf(Long.MAX_VALUE).add(ONE);
        times(beyond, ONE, 1, Long.MIN_VALUE);
        times(beyond.shiftRight(1), ONE, 2, Long.MIN_VALUE);
        times(ONE.shiftLeft(64), ONE, 1, Long.MIN_VALUE);
        times(ONE.shiftLeft(64).add(ONE), ONE, 1, Long.MIN_VALUE);
        times(ONE.shiftLeft(93).add(ONE), ONE, 1, Long.MIN_VALUE);
        times(LARGEST, ONE, 1000000000, Long.MIN_VALUE);
    }

    private static void cutTimes() {
        BigInteger beyond = BigInteger.valueOf(Long.MAX_VALUE).add(ONE);
        times(beyond.multiply(TWO).subtract(ONE), TWO, 1, Long.MAX_VALUE);
        times(beyond.multiply(BigInteger.valueOf(1000000007)).subtract(ONE), BigInteger.valueOf(1000000007), 1,
                Long.MAX_VALUE);
    }

    private static void timesByMost() {
        times(BigInteger.valueOf(9223372036L), ONE, 1000000000, 9223372036000000000L);
        times(BigInteger.valueOf(9223372037L), ONE, 1000000000, Long.MIN_VALUE);
        times(LARGEST, GREAT, 1000000000, 999999999);
    }

    /** SPAN 2, 2 ways, 2 rounds: R may be 4. */
    private static void squares(int who) {
        BigInteger far = ONE.shiftLeft(200);
        int[][] due = {{-1, 1}, {0, 1}, {1, 0}};
        for (int[] each : due) {
            RegretTable t = table(2, 2, 1, -1, -1, 1);
            Inside.putRounds(t, 2, who == 0 ? 2 : 0, who == 1 ? 2 : 0);
            BigInteger top = far.shiftLeft(2).add(BigInteger.valueOf(each[0]));
            Inside.putLearned(t, "regrets", who, 1, top, far);
            CHECK.due("R of 4 and " + each[0] + " / 2 ** 200", t.bound(who), each[1]);
            CHECK.due("the other's", t.bound(1 - who), RegretTable.NONE);
        }
        differing(who);
    }

    /** SPAN 3, 2 ways and 5 of the other's, 7 rounds: the square may be 9 * 7 * the ways that the one has. */
    private static void differing(int who) {
        for (int ways = 2; ways <= 5; ways += 3) {
            int limit = 9 * 7 * ways;
            int root = (int) Math.sqrt(limit);
            for (int r = root; r <= root + 1; r++) {
                RegretTable t = who == 0 ? table(ways, 7 - ways, 3) : table(7 - ways, ways, 3);
                Inside.putRounds(t, 7, who == 0 ? 7 : 0, who == 1 ? 7 : 0);
                Inside.putLearned(t, "regrets", who, 0, BigInteger.valueOf(r), ONE);
                CHECK.due(ways + " ways, R of " + r, t.bound(who), r * r <= limit ? 1 : 0);
            }
        }
    }

    private static void noSquareBelowZero() {
        for (int who = 0; who < 2; who++) {
            RegretTable t = table(2, 2, 1, -1, -1, 1);
            Inside.putLearned(t, "regrets", who, 0, BigInteger.valueOf(-1000), ONE);
            Inside.putLearned(t, "regrets", who, 1, BigInteger.valueOf(-1001), ONE);
            CHECK.due("no R above 0, at 0 rounds", t.bound(who), 1);
            Inside.putLearned(t, "regrets", who, 1, ONE, BigInteger.TEN);
            CHECK.due("R of 1 / 10, at 0 rounds", t.bound(who), 0);
        }
    }

    private static void greatestOfAllWays() {
        for (int who = 0; who < 2; who++) {
            for (int way = 0; way < 5; way++) {
                RegretTable t = table(5, 5, 1);
                Inside.putRounds(t, 5, who == 0 ? 5 : 0, who == 1 ? 5 : 0);
                for (int other = 0; other < 5; other++) {
                    Inside.putLearned(t, "regrets", who, other, BigInteger.valueOf(other == way ? 6 : 5), ONE);
                }
                CHECK.due("R of 6 at " + way, t.bound(who), 0);
                Inside.putLearned(t, "regrets", who, way, BigInteger.valueOf(-9), ONE);
                CHECK.due("R of 5 beside " + way, t.bound(who), 1);
            }
        }
    }

    /** Ahead of rounds the GAP is 11 / 12; where all pass and give up it is 2, for a bet always wins. */
    private static void gaps() {
        RegretTable t = new RegretTable();
        t.cards(3);
        boundAt(t, 5483, 1);
        boundAt(t, 5484, 0);
        for (int place = 0; place < 12; place++) {
            Inside.putLearned(t, "sums", place, 0, ONE, ONE);
        }
        boundAt(t, 1151, 1);
        boundAt(t, 1152, 1);
        boundAt(t, 1153, 0);
        boundAt(t, 0, 1);
    }

    private static void boundAt(RegretTable t, int rounds, int due) {
        Inside.putRounds(t, rounds, 0, 0);
        CHECK.due("bound(2) at " + rounds + " rounds", t.bound(2), due);
    }
}
