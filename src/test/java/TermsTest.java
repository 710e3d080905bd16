/** The document's terms: fractions, what is learned at a place, a round of both, best answers. */
public final class TermsTest {
    private static final int R = 0;
    private static final int SUM = 1;
    private static final int MIX = 2;
    private static final int MEAN = 3;
    private static final int A = 0;
    private static final int B = 1;

    private static final Check CHECK = new Check("TermsTest");

    public static void main(String[] args) {
        CHECK.test("fractions are in lowest terms", TermsTest::lowestTerms);
        CHECK.test("fractions are exact", TermsTest::exact);
        CHECK.test("0 is 0 / 1, also where an R comes back to it", TermsTest::zeroOfRegret);
        CHECK.test("0 is 0 / 1, also as a sum of fractions", TermsTest::zeroOfSum);
        CHECK.test("the denominator is above 0 where the fraction is below", TermsTest::denominatorAboveZero);
        CHECK.test("R and SUM are all 0 at first", TermsTest::allZeroAtFirst);
        CHECK.test("MIX: an R that is 0 gets no part beside one above 0", TermsTest::mixOfZero);
        CHECK.test("MIX: an R below 0 gets no part", TermsTest::mixBelowZero);
        CHECK.test("MIX: parts of the sum of those above 0 alone", TermsTest::mixOfThoseAbove);
        CHECK.test("MIX: 1 / n each if no R is above 0, ahead of rounds", () -> alikeAtFirst(MIX));
        CHECK.test("MIX: 1 / n each if no R is above 0, behind rounds", TermsTest::mixBehindRoundsOfNoRegret);
        CHECK.test("MEAN: SUM as parts of their sum", TermsTest::mean);
        CHECK.test("MEAN: 1 / n each if the sum is 0", () -> alikeAtFirst(MEAN));
        CHECK.test("MEAN: 1 / n each for the one who did not play", TermsTest::meanOfWhoDidNotPlay);
        CHECK.test("a round of both is by the mixes ahead of it", TermsTest::roundByMixesAhead);
        CHECK.test("BEST of A is the greatest, also if all are below 0", TermsTest::bestOfABelowZero);
        CHECK.test("BEST of B is of the numbers turned about", TermsTest::bestOfBBelowZero);
        CHECK.test("BEST of one row or column", TermsTest::bestOfOne);
        CHECK.test("GAP is both together", TermsTest::gap);
        CHECK.end();
    }

    private static void lowestTerms() {
        Tireless t = Games.table(2, 1);
        long[][] sums = {{1, 2}, {1, 1}, {3, 2}, {2, 1}};
        for (long[] sum : sums) {
            t.column(0);
            CHECK.ways("SUM", t, SUM, A, sum[0], sum[1], sum[0], sum[1]);
        }
    }

    private static void exact() {
        for (int rows = 1; rows <= 5; rows++) {
            Tireless t = Games.table(rows, 1);
            for (int i = 0; i < 7 * rows; i++) {
                t.column(0);
            }
            for (int row = 0; row < rows; row++) {
                CHECK.view("SUM of 1 / " + rows, t, new int[] {SUM, A, row}, 7, 1);
            }
        }
    }

    private static void zeroOfRegret() {
        Tireless t = Games.table(2, 2, 1, 0, -1, 1);
        t.column(0);
        CHECK.ways("R", t, R, A, 1, 1, -1, 1);
        t.column(1);
        CHECK.ways("R", t, R, A, 1, 1, 0, 1);
    }

    private static void zeroOfSum() {
        Tireless t = Games.table(1, 3, 1, -1, 0);
        CHECK.view("1 / 3 - 1 / 3", t, new int[] {4, A, 0}, 0, 1);
        t.table(2, 3);
        t.set(0, 0, 1);
        t.set(1, 2, 1);
        CHECK.view("BEST of A", t, new int[] {4, A, 0}, 1, 3);
        CHECK.view("BEST of B", t, new int[] {4, B, 0}, 0, 1);
    }

    private static void denominatorAboveZero() {
        Tireless t = Games.table(2, 1, 0, 3);
        t.column(0);
        CHECK.ways("R", t, R, A, -3, 2, 3, 2);
        CHECK.due("times(2) of -3 / 2", times(t, 0), -3);
    }

    private static long times(Tireless t, int way) {
        t.view(R, A, way);
        return t.times(2);
    }

    private static void allZeroAtFirst() {
        Tireless t = Games.small();
        for (int what = R; what <= SUM; what++) {
            CHECK.ways("of A", t, what, A, 0, 1, 0, 1);
            CHECK.ways("of B", t, what, B, 0, 1, 0, 1, 0, 1);
        }
        for (int n = 3; n <= 5; n++) {
            t.cards(n);
            for (int place = 0; place < 4 * n; place++) {
                CHECK.ways("R of cards", t, R, place, 0, 1, 0, 1);
                CHECK.ways("SUM of cards", t, SUM, place, 0, 1, 0, 1);
            }
        }
    }

    private static void mixOfZero() {
        Tireless t = Games.table(2, 2, 1, 0, -1, 1);
        t.column(0);
        t.column(1);
        CHECK.ways("MIX of 1 and 0", t, MIX, A, 1, 1, 0, 1);
    }

    private static void mixBelowZero() {
        Tireless t = Games.table(3, 1, 5, -1, -1);
        t.column(0);
        CHECK.ways("R", t, R, A, 4, 1, -2, 1, -2, 1);
        CHECK.ways("MIX", t, MIX, A, 1, 1, 0, 1, 0, 1);
    }

    private static void mixOfThoseAbove() {
        Tireless t = Games.table(4, 1, 5, 4, 0, -5);
        t.column(0);
        CHECK.ways("R", t, R, A, 4, 1, 3, 1, -1, 1, -6, 1);
        CHECK.ways("MIX", t, MIX, A, 4, 7, 3, 7, 0, 1, 0, 1);
    }

    /** MIX or MEAN, of each number of ways. */
    private static void alikeAtFirst(int what) {
        for (int n = 1; n <= 5; n++) {
            Tireless t = Games.table(n, 6 - n, 9);
            everyWay("of A", t, what, A, n);
            everyWay("of B", t, what, B, 6 - n);
        }
        Tireless t = Games.cards(5, 0);
        for (int place = 0; place < 20; place++) {
            everyWay("of cards", t, what, place, 2);
        }
    }

    private static void everyWay(String name, Tireless t, int what, int place, int n) {
        for (int way = 0; way < n; way++) {
            CHECK.view(name + " at " + place, t, new int[] {what, place, way}, 1, n);
        }
        CHECK.due(name + ": one way more", t.view(what, place, n), false);
    }

    private static void mixBehindRoundsOfNoRegret() {
        for (int n = 1; n <= 5; n++) {
            Tireless t = Games.table(n, n);
            for (int i = 0; i < n * n; i++) {
                t.set(i / n, i % n, -7);
            }
            CHECK.due("round()", t.round(), 1);
            CHECK.due("column()", t.column(n - 1), true);
            CHECK.due("row()", t.row(n - 1), true);
            for (int player = A; player <= B; player++) {
                CHECK.view("R", t, new int[] {R, player, n - 1}, 0, 1);
                boolean isEven = n % 2 == 0;
                CHECK.view("SUM", t, new int[] {SUM, player, n - 1}, isEven ? 1 : 2, isEven ? n / 2 : n);
                everyWay("MIX", t, MIX, player, n);
            }
        }
    }

    private static void mean() {
        Tireless t = Games.small();
        t.column(0);
        t.column(1);
        CHECK.ways("SUM", t, SUM, A, 3, 2, 1, 2);
        CHECK.ways("MEAN", t, MEAN, A, 3, 4, 1, 4);
    }

    private static void meanOfWhoDidNotPlay() {
        Tireless t = Games.small();
        t.column(0);
        t.column(2);
        everyWay("MEAN of B", t, MEAN, B, 3);
        t = Games.small();
        t.row(0);
        t.row(1);
        everyWay("MEAN of A", t, MEAN, A, 2);
    }

    private static void roundByMixesAhead() {
        Tireless t = Games.small();
        t.round();
        CHECK.ways("R of A", t, R, A, 1, 3, -1, 3);
        CHECK.ways("R of B", t, R, B, -1, 2, -1, 2, 1, 1);
        t.round();
        CHECK.ways("R of A", t, R, A, 1, 3, -13, 3);
        CHECK.ways("R of B", t, R, B, -3, 2, 5, 2, 1, 1);
        CHECK.ways("SUM of A", t, SUM, A, 3, 2, 1, 2);
        CHECK.ways("SUM of B", t, SUM, B, 1, 3, 1, 3, 4, 3);
    }

    private static void bestOfABelowZero() {
        Tireless t = Games.table(2, 2, -5, -3, -4, -6);
        CHECK.view("BEST of A", t, new int[] {4, A, 0}, -4, 1);
        CHECK.view("BEST of B", t, new int[] {4, B, 0}, 9, 2);
        CHECK.view("GAP", t, new int[] {5, 0, 0}, 1, 2);
    }

    private static void bestOfBBelowZero() {
        Tireless t = Games.table(2, 2, 5, 3, 4, 7);
        CHECK.view("BEST of A", t, new int[] {4, A, 0}, 11, 2);
        CHECK.view("BEST of B", t, new int[] {4, B, 0}, -9, 2);
        CHECK.view("GAP", t, new int[] {5, 0, 0}, 1, 1);
    }

    private static void bestOfOne() {
        Tireless t = Games.table(1, 1, -1000);
        CHECK.view("BEST of A", t, new int[] {4, A, 0}, -1000, 1);
        CHECK.view("BEST of B", t, new int[] {4, B, 0}, 1000, 1);
        CHECK.view("GAP", t, new int[] {5, 0, 0}, 0, 1);
        t = Games.table(1, 3, 3, -1, 2);
        CHECK.view("BEST of A, one row", t, new int[] {4, A, 0}, 4, 3);
        CHECK.view("BEST of B, one row", t, new int[] {4, B, 0}, 1, 1);
    }

    private static void gap() {
        Tireless t = Games.small();
        t.column(0);
        t.column(1);
        t.column(2);
        CHECK.view("BEST of A", t, new int[] {4, A, 0}, 4, 3);
        CHECK.view("BEST of B", t, new int[] {4, B, 0}, -2, 5);
        CHECK.view("GAP", t, new int[] {5, 0, 0}, 14, 15);
    }
}
