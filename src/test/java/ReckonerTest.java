import java.lang.reflect.Constructor;
import java.lang.reflect.Field;
import java.lang.reflect.Method;
import java.math.BigInteger;
import java.util.Random;

/**
 * Long division and common divisors of numbers made of words that are all ones, almost nothing, or a
 * half: the guess at a word of a quotient is wrong there often, and in games hardly ever.
 */
public final class ReckonerTest {
    private static final int WORD_BITS = 31;
    private static final int[] WORDS = {0, 1, 0x7FFFFFFF, 0x40000000, 0x3FFFFFFF};

    private static final Check CHECK = new Check("ReckonerTest");
    private static final Random RANDOM = new Random(7);

    private final Class<?> wholes = Class.forName("RegretTable$Whole");
    private final Class<?> reckoners = Class.forName("RegretTable$Reckoner");
    private final Object reckoner = made(reckoners);
    private final Method divide = method(reckoners, "divide", wholes, wholes);
    private final Method findCommon = method(reckoners, "findCommon", wholes, wholes);

    private ReckonerTest() throws ReflectiveOperationException {
    }

    public static void main(String[] args) throws ReflectiveOperationException {
        ReckonerTest test = new ReckonerTest();
        for (int i = 0; i < 20000; i++) {
            BigInteger by = number(1 + RANDOM.nextInt(6)).add(BigInteger.ONE);
            test.division(number(RANDOM.nextInt(12)), by);
            BigInteger almost = by.multiply(number(RANDOM.nextInt(6))).subtract(BigInteger.valueOf(RANDOM.nextInt(3)));
            test.division(almost.max(BigInteger.ZERO), by);
            BigInteger shared = number(RANDOM.nextInt(4)).add(BigInteger.ONE);
            test.common(number(RANDOM.nextInt(12)).multiply(shared), by.multiply(shared));
        }
        CHECK.end();
    }

    private static BigInteger number(int words) {
        BigInteger number = BigInteger.ZERO;
        for (int i = 0; i < words; i++) {
            int kind = RANDOM.nextInt(WORDS.length + 1);
            int word = kind < WORDS.length ? WORDS[kind] : RANDOM.nextInt() >>> 1;
            number = number.shiftLeft(WORD_BITS).add(BigInteger.valueOf(word));
        }
        return number;
    }

    private void division(BigInteger number, BigInteger by) throws ReflectiveOperationException {
        Object rest = whole(number);
        divide.invoke(reckoner, rest, whole(by));
        BigInteger[] want = number.divideAndRemainder(by);
        CHECK.due(number + " / " + by, value(field(reckoners, "quotient").get(reckoner)).equals(want[0]), true);
        CHECK.due(number + " % " + by, value(rest).equals(want[1]), true);
    }

    private void common(BigInteger a, BigInteger b) throws ReflectiveOperationException {
        findCommon.invoke(reckoner, whole(a), whole(b));
        CHECK.due("common of " + a + " and " + b,
                value(field(reckoners, "common").get(reckoner)).equals(a.gcd(b)), true);
    }

    private Object whole(BigInteger number) throws ReflectiveOperationException {
        Object whole = made(wholes);
        int words = (number.bitLength() + WORD_BITS - 1) / WORD_BITS;
        method(wholes, "room", int.class).invoke(whole, words);
        int[] into = (int[]) field(wholes, "words").get(whole);
        for (int i = 0; i < words; i++) {
            into[i] = number.shiftRight(WORD_BITS * i).intValue() & 0x7FFFFFFF;
        }
        field(wholes, "used").setInt(whole, words);
        return whole;
    }

    private BigInteger value(Object whole) throws ReflectiveOperationException {
        int[] words = (int[]) field(wholes, "words").get(whole);
        BigInteger number = BigInteger.ZERO;
        for (int i = field(wholes, "used").getInt(whole) - 1; i >= 0; i--) {
            number = number.shiftLeft(WORD_BITS).add(BigInteger.valueOf(words[i]));
        }
        return number;
    }

    private static Object made(Class<?> of) throws ReflectiveOperationException {
        Constructor<?> constructor = of.getDeclaredConstructor();
        constructor.setAccessible(true);
        return constructor.newInstance();
    }

    private static Method method(Class<?> of, String name, Class<?>... with) throws ReflectiveOperationException {
        Method method = of.getDeclaredMethod(name, with);
        method.setAccessible(true);
        return method;
    }

    private static Field field(Class<?> of, String name) throws ReflectiveOperationException {
        Field field = of.getDeclaredField(name);
        field.setAccessible(true);
        return field;
    }
}
