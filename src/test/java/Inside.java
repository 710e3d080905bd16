import java.lang.reflect.Constructor;
import java.lang.reflect.Field;
import java.lang.reflect.Method;
import java.math.BigInteger;

/**
 * Looks into a RegretTable and puts fractions there that no 512 calls lead to. It knows how this class is
 * built inside: the document leaves that free, so a class that is built otherwise is not looked into.
 */
final class Inside {
    static final int WORD_BITS = 31;

    private Inside() {
    }

    static boolean isKnown() {
        for (String name : new String[] {"Whole", "Fraction", "Reckoner", "Learning"}) {
            if (find(name) == null) {
                return false;
            }
        }
        return true;
    }

    private static Class<?> find(String name) {
        for (Class<?> inside : RegretTable.class.getDeclaredClasses()) {
            if (inside.getSimpleName().equals(name)) {
                return inside;
            }
        }
        return null;
    }

    static Object made(String name) {
        try {
            Constructor<?> constructor = find(name).getDeclaredConstructor();
            constructor.setAccessible(true);
            return constructor.newInstance();
        } catch (ReflectiveOperationException e) {
            throw new IllegalStateException(e);
        }
    }

    static Object get(Object of, String name) {
        try {
            return field(of, name).get(of);
        } catch (ReflectiveOperationException e) {
            throw new IllegalStateException(e);
        }
    }

    static void put(Object of, String name, Object value) {
        try {
            field(of, name).set(of, value);
        } catch (ReflectiveOperationException e) {
            throw new IllegalStateException(e);
        }
    }

    private static Field field(Object of, String name) throws ReflectiveOperationException {
        Field field = of.getClass().getDeclaredField(name);
        field.setAccessible(true);
        return field;
    }

    static void call(Object of, String name, Object... with) {
        try {
            for (Method method : of.getClass().getDeclaredMethods()) {
                if (method.getName().equals(name) && method.getParameterCount() == with.length) {
                    method.setAccessible(true);
                    method.invoke(of, with);
                    return;
                }
            }
            throw new IllegalStateException("no method " + name);
        } catch (ReflectiveOperationException e) {
            throw new IllegalStateException(e);
        }
    }

    static void putWhole(Object whole, BigInteger number) {
        BigInteger size = number.abs();
        int words = (size.bitLength() + WORD_BITS - 1) / WORD_BITS;
        call(whole, "room", words);
        int[] into = (int[]) get(whole, "words");
        for (int i = 0; i < words; i++) {
            into[i] = size.shiftRight(WORD_BITS * i).intValue() & Integer.MAX_VALUE;
        }
        put(whole, "used", words);
        put(whole, "negative", number.signum() < 0);
    }

    static BigInteger wholeOf(Object whole) {
        int[] words = (int[]) get(whole, "words");
        BigInteger number = BigInteger.ZERO;
        for (int i = (int) get(whole, "used") - 1; i >= 0; i--) {
            number = number.shiftLeft(WORD_BITS).add(BigInteger.valueOf(words[i]));
        }
        return number;
    }

    static void putFraction(Object fraction, BigInteger top, BigInteger bottom) {
        Ratio ratio = new Ratio(top, bottom);
        putWhole(get(fraction, "top"), ratio.top);
        putWhole(get(fraction, "bottom"), ratio.bottom);
    }

    static void putView(RegretTable table, BigInteger top, BigInteger bottom) {
        putFraction(get(table, "viewed"), top, bottom);
    }

    /** R ("regrets") or SUM ("sums") of a way at a place. */
    static void putLearned(RegretTable table, String what, int place, int way, BigInteger top, BigInteger bottom) {
        Object learning = get(table, "learning");
        int stride = (int) get(learning, "stride");
        Object[] all = (Object[]) get(learning, what);
        putFraction(all[place * stride + way], top, bottom);
    }

    static void putRounds(RegretTable table, int all, int ofA, int ofB) {
        put(table, "rounds", all);
        put(table, "roundsOfA", ofA);
        put(table, "roundsOfB", ofB);
    }
}
