import java.math.BigInteger;
import java.util.Random;

/**
 * Long division and common divisors of numbers made of words that are all ones, almost nothing, or a
 * half: the guess at a word of a quotient is wrong there often, and in games hardly ever.
 */
public final class ReckonerTest {
    private static final int[] WORDS = {0, 1, 0x7FFFFFFF, 0x40000000, 0x3FFFFFFF};

    private static final Check CHECK = new Check("ReckonerTest");
    private static final Random RANDOM = new Random(7);

    public static void main(String[] args) {
        if (!Inside.isKnown()) {
            System.out.println("ReckonerTest: the class is built otherwise inside, there is nothing to reckon with");
            return;
        }
        Object reckoner = Inside.made("Reckoner");
        for (int i = 0; i < 20000; i++) {
            BigInteger by = number(1 + RANDOM.nextInt(6)).add(BigInteger.ONE);
            division(reckoner, number(RANDOM.nextInt(12)), by);
            BigInteger almost = by.multiply(number(RANDOM.nextInt(6))).subtract(BigInteger.valueOf(RANDOM.nextInt(3)));
            division(reckoner, almost.max(BigInteger.ZERO), by);
            BigInteger shared = number(RANDOM.nextInt(4)).add(BigInteger.ONE);
            common(reckoner, number(RANDOM.nextInt(12)).multiply(shared), by.multiply(shared));
            largeQuotients(reckoner, shared);
        }
        CHECK.end();
    }

    private static BigInteger number(int words) {
        BigInteger number = BigInteger.ZERO;
        for (int i = 0; i < words; i++) {
            int kind = RANDOM.nextInt(WORDS.length + 1);
            int word = kind < WORDS.length ? WORDS[kind] : RANDOM.nextInt() >>> 1;
            number = number.shiftLeft(Inside.WORD_BITS).add(BigInteger.valueOf(word));
        }
        return number;
    }

    /** Two numbers made from told quotients, many of them large: numbers at random hardly ever have such. */
    private static void largeQuotients(Object reckoner, BigInteger shared) {
        BigInteger large = shared;
        BigInteger small = BigInteger.ZERO;
        int steps = 2 + RANDOM.nextInt(30);
        for (int i = 0; i < steps; i++) {
            int bits = RANDOM.nextBoolean() ? 1 + RANDOM.nextInt(3) : 1 + RANDOM.nextInt(34);
            BigInteger quotient = new BigInteger(bits, RANDOM).setBit(bits - 1);
            BigInteger next = quotient.multiply(large).add(small);
            small = large;
            large = next;
        }
        common(reckoner, large, small);
        common(reckoner, small, large);
    }

    private static Object whole(BigInteger number) {
        Object whole = Inside.made("Whole");
        Inside.putWhole(whole, number);
        return whole;
    }

    private static void division(Object reckoner, BigInteger number, BigInteger by) {
        Object rest = whole(number);
        Inside.call(reckoner, "divide", rest, whole(by));
        BigInteger[] want = number.divideAndRemainder(by);
        CHECK.due(number + " / " + by, Inside.wholeOf(Inside.get(reckoner, "quotient")).equals(want[0]), true);
        CHECK.due(number + " % " + by, Inside.wholeOf(rest).equals(want[1]), true);
    }

    private static void common(Object reckoner, BigInteger a, BigInteger b) {
        Inside.call(reckoner, "findCommon", whole(a), whole(b));
        CHECK.due("common of " + a + " and " + b,
                Inside.wholeOf(Inside.get(reckoner, "common")).equals(a.gcd(b)), true);
    }
}
