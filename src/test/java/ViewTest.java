import java.math.BigInteger;
import java.util.Random;

/** Promises 8 to 11: view(), size(), bits(), times(). */
public final class ViewTest {
    private static final int R = 0;
    private static final int MEAN = 3;
    private static final int BEST = 4;
    private static final int GAP = 5;
    private static final int A = 0;
    private static final int B = 1;

    private static final Check CHECK = new Check("ViewTest");

    public static void main(String[] args) {
        CHECK.test("8: R, SUM, MIX, MEAN of each way of a TABLE", ViewTest::everyWayOfTable);
        CHECK.test("8: a TABLE has no place but 0 and 1", ViewTest::wrongPlaceOfTable);
        CHECK.test("8: a way that a place of a TABLE has not", ViewTest::wrongWayOfTable);
        CHECK.test("8: a smaller TABLE behind a larger one", ViewTest::smallerTable);
        CHECK.test("8: R, SUM, MIX, MEAN of each way of CARDS", ViewTest::everyWayOfCards);
        CHECK.test("8: a place that CARDS have not", ViewTest::wrongPlaceOfCards);
        CHECK.test("8: a way that CARDS have not", ViewTest::wrongWayOfCards);
        CHECK.test("8: BEST is of place 0 and 1 alone, at way 0", ViewTest::wrongBest);
        CHECK.test("8: GAP is at place and way 0 alone", ViewTest::wrongGap);
        CHECK.test("8: what is none of 0 to 5", ViewTest::wrongWhat);
        CHECK.test("8: no game", ViewTest::viewWithoutGame);
        CHECK.test("8: THE VIEW stays until another is taken", ViewTest::viewStays);
        CHECK.test("9: 0 / 1 at first", ViewTest::viewAtFirst);
        CHECK.test("9: the sign", ViewTest::signs);
        CHECK.test("9: bits of 0", ViewTest::bitsOfZero);
        CHECK.test("9: bits of numbers beside powers of two", ViewTest::sizesBesidePowers);
        CHECK.test("9: another what", ViewTest::wrongSize);
        CHECK.test("9, 10: numbers of about 32, 64 and 128 bits", ViewTest::longNumbers);
        CHECK.test("10: the numerator is without its sign", ViewTest::bitsBelowZero);
        CHECK.test("10: 0 beyond", ViewTest::bitsBeyond);
        CHECK.test("10: 0 for k below 0", ViewTest::bitsOfKBelowZero);
        CHECK.test("10: 0 for another part", ViewTest::bitsOfOtherPart);
        CHECK.test("10: 32 bits with the highest one set", ViewTest::highestBitSet);
        CHECK.test("11: cut toward 0, above 0", ViewTest::cutAboveZero);
        CHECK.test("11: cut toward 0, below 0", ViewTest::cutBelowZero);
        CHECK.test("11: of 0", ViewTest::timesOfZero);
        CHECK.test("11: the numbers 1 and 1000000000", ViewTest::outermostTimes);
        CHECK.test("11: a number that can't be", ViewTest::wrongTimes);
        CHECK.test("11: a product beyond an int", ViewTest::largeTimes);
        CHECK.end();
    }

    /** None such: the call is refused, and THE VIEW too stays as it was. */
    private static void none(Tireless t, int what, int place, int way) {
        CHECK.refused("view(" + what + ", " + place + ", " + way + ")", t, x -> x.view(what, place, way));
    }

    private static Tireless played() {
        Tireless t = Games.small();
        t.column(0);
        t.column(1);
        t.column(2);
        t.row(1);
        t.view(R, A, 0);
        return t;
    }

    private static void everyWayOfTable() {
        Tireless t = played();
        long[][] ofA = {{43, 10, 23, 10}, {9, 5, 6, 5}, {43, 66, 23, 66}, {3, 5, 2, 5}};
        long[][] ofB = {{2, 3, -10, 3, 8, 3}, {1, 3, 1, 3, 1, 3}, {1, 5, 0, 1, 4, 5}, {1, 3, 1, 3, 1, 3}};
        for (int what = R; what <= MEAN; what++) {
            CHECK.ways("what " + what + " of A", t, what, A, ofA[what]);
            CHECK.ways("what " + what + " of B", t, what, B, ofB[what]);
        }
    }

    private static void wrongPlaceOfTable() {
        for (int what = R; what <= MEAN; what++) {
            for (int place : new int[] {-1, 2, 3, Games.LEAST, Games.MOST}) {
                none(played(), what, place, 0);
            }
        }
    }

    private static void wrongWayOfTable() {
        for (int what = R; what <= MEAN; what++) {
            for (int way : new int[] {-1, 3, 4, 5, Games.LEAST, Games.MOST}) {
                none(played(), what, A, way);
                none(played(), what, B, way);
            }
            none(played(), what, A, 2);
            Tireless t = Games.table(3, 2);
            CHECK.due("way 2 of three rows", t.view(what, A, 2), true);
            none(t, what, B, 2);
        }
    }

    private static void smallerTable() {
        Tireless t = Games.table(5, 5);
        t.table(1, 2);
        for (int what = R; what <= MEAN; what++) {
            none(t, what, A, 1);
            none(t, what, B, 2);
            CHECK.due("the one row", t.view(what, A, 0), true);
            CHECK.due("the second column", t.view(what, B, 1), true);
        }
    }

    private static void everyWayOfCards() {
        for (int n = 3; n <= 5; n++) {
            Tireless t = Games.cards(n, 1);
            for (int place = 0; place < 4 * n; place++) {
                for (int what = R; what <= MEAN; what++) {
                    CHECK.due("way 0 at " + place, t.view(what, place, 0), true);
                    CHECK.due("way 1 at " + place, t.view(what, place, 1), true);
                }
                CHECK.ways("MEAN", t, MEAN, place, 1, 2, 1, 2);
            }
        }
    }

    private static void wrongPlaceOfCards() {
        for (int n = 3; n <= 5; n++) {
            Tireless t = Games.cards(n, 1);
            t.view(R, 4 * n - 1, 1);
            for (int what = R; what <= MEAN; what++) {
                none(t, what, -1, 0);
                none(t, what, 4 * n, 0);
            }
            none(t, R, 20, 0);
            none(t, R, Games.LEAST, 0);
            none(t, R, Games.MOST, 0);
        }
    }

    private static void wrongWayOfCards() {
        Tireless t = Games.cards(3, 1);
        t.view(R, 0, 1);
        for (int what = R; what <= MEAN; what++) {
            for (int way : new int[] {-1, 2, Games.LEAST, Games.MOST}) {
                none(t, what, 0, way);
                none(t, what, 11, way);
            }
        }
    }

    private static void wrongBest() {
        for (Tireless t : new Tireless[] {played(), Games.cards(3, 1)}) {
            CHECK.due("BEST of A", t.view(BEST, A, 0), true);
            CHECK.due("BEST of B", t.view(BEST, B, 0), true);
            for (int wrong : new int[] {-1, 2, 3, Games.LEAST, Games.MOST}) {
                none(t, BEST, wrong, 0);
            }
            for (int wrong : new int[] {-1, 1, 2, Games.LEAST, Games.MOST}) {
                none(t, BEST, A, wrong);
                none(t, BEST, B, wrong);
            }
        }
    }

    private static void wrongGap() {
        for (Tireless t : new Tireless[] {played(), Games.cards(3, 1)}) {
            CHECK.due("GAP", t.view(GAP, 0, 0), true);
            t.view(R, A, 0);
            for (int wrong : new int[] {-1, 1, 2, Games.LEAST, Games.MOST}) {
                none(t, GAP, wrong, 0);
                none(t, GAP, 0, wrong);
            }
        }
    }

    private static void wrongWhat() {
        for (Tireless t : new Tireless[] {played(), Games.cards(3, 1)}) {
            for (int wrong : new int[] {-1, 6, 7, Games.LEAST, Games.MOST}) {
                none(t, wrong, 0, 0);
            }
        }
    }

    private static void viewWithoutGame() {
        Tireless t = new Tireless();
        for (int what = -1; what <= 6; what++) {
            for (int place = -1; place <= 2; place++) {
                none(t, what, place, 0);
            }
        }
        CHECK.seen("the view", t, 0, 1);
    }

    private static void viewStays() {
        Tireless t = Games.small();
        t.column(0);
        t.view(R, A, 1);
        t.column(1);
        t.round();
        CHECK.seen("behind rounds", t, -3, 2);
        t.bound(0);
        t.about(6);
        t.times(7);
        t.size(1);
        t.bits(1, 0);
        CHECK.seen("behind questions", t, -3, 2);
        t.table(1, 1);
        CHECK.seen("behind table()", t, -3, 2);
        t.cards(3);
        t.round();
        t.bound(2);
        CHECK.seen("behind cards()", t, -3, 2);
    }

    private static void viewAtFirst() {
        Tireless t = new Tireless();
        CHECK.due("size(0)", t.size(0), 0);
        CHECK.due("size(1)", t.size(1), 0);
        CHECK.due("size(2)", t.size(2), 1);
        CHECK.due("bits(0, 0)", t.bits(0, 0), 0);
        CHECK.due("bits(1, 0)", t.bits(1, 0), 1);
        CHECK.due("times(1000000000)", t.times(1000000000), 0);
        t.cards(3);
        CHECK.seen("with a game, but no view taken", t, 0, 1);
    }

    private static void signs() {
        Tireless t = Games.table(3, 1, 9, 0, -9);
        t.column(0);
        int[] signs = {1, 0, -1};
        for (int way = 0; way < 3; way++) {
            t.view(R, A, way);
            CHECK.due("size(0)", t.size(0), signs[way]);
        }
    }

    private static void bitsOfZero() {
        Tireless t = Games.small();
        t.column(0);
        t.view(R, A, 1);
        t.view(R, B, 0);
        CHECK.due("size(0)", t.size(0), 0);
        CHECK.due("size(1)", t.size(1), 0);
        CHECK.due("size(2)", t.size(2), 1);
    }

    /** R is a number itself where the other row holds it turned about. */
    private static void sizesBesidePowers() {
        int[] numbers = {1, 2, 3, 4, 7, 8, 9, 255, 256, 257, 511, 512, 513, 999, 1000};
        int[] bits = {1, 2, 2, 3, 3, 4, 4, 8, 9, 9, 9, 10, 10, 10, 10};
        for (int i = 0; i < numbers.length; i++) {
            Tireless t = Games.table(2, 1, numbers[i], -numbers[i]);
            t.column(0);
            for (int way = 0; way < 2; way++) {
                t.view(R, A, way);
                CHECK.due("bits of " + numbers[i], t.size(1), bits[i]);
                CHECK.due("bits of 1", t.size(2), 1);
            }
            denominatorBesidePowers(numbers[i], bits[i]);
        }
    }

    /** Behind R of 1 and n - 1 the MIX's parts have the denominator n. */
    private static void denominatorBesidePowers(int n, int bits) {
        Tireless t = Games.table(2, 2, 1, 0, -1, n);
        t.column(0);
        t.column(1);
        t.view(2, A, 0);
        CHECK.due("bits of the numerator 1", t.size(1), 1);
        CHECK.due("bits of the denominator " + n, t.size(2), bits);
        CHECK.due("the denominator", t.bits(1, 0), n);
    }

    private static void wrongSize() {
        Tireless t = played();
        for (int wrong : new int[] {-1, -2, 3, 4, Games.LEAST, Games.MOST}) {
            CHECK.due("size(" + wrong + ")", t.size(wrong), -2);
            CHECK.due("size(" + wrong + ") of a new object", new Tireless().size(wrong), -2);
        }
    }

    /** Games at random beside the model, until numerators and denominators of all these bits were seen. */
    private static void longNumbers() {
        boolean[][] seen = new boolean[2][300];
        for (int run = 0; run < 400; run++) {
            Random random = new Random(1000003L * run);
            Beside beside = new Beside(3, 3, random, new int[] {1, 3, 30, 1000}[run % 4]);
            for (int i = 0; i < 14; i++) {
                beside.play("c" + random.nextInt(3));
                for (int what = R; what <= MEAN; what++) {
                    beside.table.view(what, A, i % 3);
                    beside.model.view(what, A, i % 3);
                    BigInteger top = beside.model.viewed().top;
                    BigInteger bottom = beside.model.viewed().bottom;
                    CHECK.seen("run " + run + ", round " + i, beside.table, top, bottom);
                    seen[0][Math.min(299, top.abs().bitLength())] = true;
                    seen[1][Math.min(299, bottom.bitLength())] = true;
                }
            }
        }
        for (int bits : new int[] {30, 31, 32, 33, 61, 62, 63, 64, 65, 66, 127, 128, 129}) {
            CHECK.due("a numerator of " + bits + " bits was seen", seen[0][bits], true);
            CHECK.due("a denominator of " + bits + " bits was seen", seen[1][bits], true);
        }
    }

    private static void bitsBelowZero() {
        Tireless t = Games.small();
        t.column(0);
        t.view(R, A, 1);
        CHECK.due("size(0)", t.size(0), -1);
        CHECK.due("bits(0, 0)", t.bits(0, 0), 3);
        CHECK.due("bits(0, 1)", t.bits(0, 1), 0);
        CHECK.due("bits(1, 0)", t.bits(1, 0), 2);
    }

    private static void bitsBeyond() {
        for (Tireless t : new Tireless[] {new Tireless(), played(), longMean()}) {
            int from = Math.max(t.size(1), t.size(2)) / 32 + 1;
            for (int k : new int[] {from, from + 1, 100, 1 << 26, 1 << 27, 1 << 28, Games.MOST}) {
                CHECK.due("bits(0, " + k + ")", t.bits(0, k), 0);
                CHECK.due("bits(1, " + k + ")", t.bits(1, k), 0);
            }
        }
    }

    private static Tireless longMean() {
        Tireless t = Games.cards(5, 9);
        t.view(MEAN, 16, 1);
        return t;
    }

    private static void bitsOfKBelowZero() {
        for (Tireless t : new Tireless[] {new Tireless(), played(), longMean()}) {
            for (int k : new int[] {-1, -2, -31, -(1 << 27), Games.LEAST}) {
                CHECK.due("bits(0, " + k + ")", t.bits(0, k), 0);
                CHECK.due("bits(1, " + k + ")", t.bits(1, k), 0);
            }
        }
    }

    private static void bitsOfOtherPart() {
        for (Tireless t : new Tireless[] {new Tireless(), played(), longMean()}) {
            for (int part : new int[] {-1, 2, 3, Games.LEAST, Games.MOST}) {
                CHECK.due("bits(" + part + ", 0)", t.bits(part, 0), 0);
                CHECK.due("bits(" + part + ", 1)", t.bits(part, 1), 0);
            }
        }
    }

    private static void highestBitSet() {
        Tireless t = longMean();
        CHECK.due("bits(0, 3)", t.bits(0, 3), 605671795);
        int negative = 0;
        for (int k = 0; k < 6; k++) {
            negative += t.bits(0, k) < 0 ? 1 : 0;
            negative += t.bits(1, k) < 0 ? 1 : 0;
        }
        CHECK.due("some 32 bits are below 0 as an int", negative > 0, true);
        int words = (t.size(1) + 31) / 32;
        CHECK.due("the highest bits", t.bits(0, words - 1) >>> ((t.size(1) - 1) % 32), 1);
    }

    private static void cutAboveZero() {
        Tireless t = Games.small();
        t.row(0);
        t.view(R, B, 1);
        CHECK.due("times(1) of 7 / 3", t.times(1), 2);
        CHECK.due("times(2) of 7 / 3", t.times(2), 4);
        CHECK.due("times(3) of 7 / 3", t.times(3), 7);
        t.view(2, A, 0);
        CHECK.due("times(1) of 1 / 2", t.times(1), 0);
        CHECK.due("times(3) of 1 / 2", t.times(3), 1);
    }

    private static void cutBelowZero() {
        Tireless t = Games.small();
        t.row(0);
        t.view(R, B, 0);
        CHECK.due("times(1) of -5 / 3", t.times(1), -1);
        CHECK.due("times(2) of -5 / 3", t.times(2), -3);
        CHECK.due("times(3) of -5 / 3", t.times(3), -5);
        t.view(R, B, 2);
        CHECK.due("times(1) of -2 / 3", t.times(1), 0);
    }

    private static void timesOfZero() {
        Tireless t = Games.small();
        t.view(R, A, 0);
        CHECK.due("times(1)", t.times(1), 0);
        CHECK.due("times(1000000000)", t.times(1000000000), 0);
    }

    private static void outermostTimes() {
        Tireless t = Games.small();
        t.row(0);
        t.view(R, B, 0);
        CHECK.due("times(1) of -5 / 3", t.times(1), -1);
        CHECK.due("times(1000000000) of -5 / 3", t.times(1000000000), -1666666666L);
        CHECK.due("times(999999999) of -5 / 3", t.times(999999999), -1666666665L);
    }

    private static void wrongTimes() {
        for (Tireless t : new Tireless[] {new Tireless(), played(), longMean()}) {
            for (int wrong : new int[] {0, -1, 1000000001, -1000000000, Games.LEAST, Games.MOST}) {
                CHECK.due("times(" + wrong + ")", t.times(wrong), -9223372036854775807L - 1);
            }
        }
    }

    private static void largeTimes() {
        Tireless t = Games.table(2, 1, 1000, -1000);
        for (int i = 0; i < 400; i++) {
            t.column(0);
        }
        t.view(R, A, 1);
        CHECK.seen("R", t, -799000, 1);
        CHECK.due("times(1000000000)", t.times(1000000000), -799000000000000L);
        t.view(1, A, 0);
        CHECK.due("times(1000000000) of 799 / 2", t.times(1000000000), 399500000000L);
    }
}
