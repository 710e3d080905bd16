import java.math.BigInteger;
import java.util.function.Predicate;

/** Counts the tests of a file, one for each sentence of the document, and the answers that are not as due. */
final class Check {
    private static final int MOST_TOLD = 50;

    private final String file;
    private String sentence = "";
    private int tests;
    private int failedTests;
    private int asked;
    private int wrong;

    Check(String file) {
        this.file = file;
    }

    void test(String newSentence, Runnable body) {
        int wrongBefore = wrong;
        sentence = newSentence;
        tests++;
        try {
            body.run();
        } catch (RuntimeException | StackOverflowError | AssertionError thrown) {
            wrong++;
            tell("threw " + thrown);
        }
        failedTests += wrong > wrongBefore ? 1 : 0;
        sentence = "";
    }

    private void tell(String what) {
        if (wrong <= MOST_TOLD) {
            System.out.println(file + ": " + (sentence.isEmpty() ? "" : "[" + sentence + "] ") + what);
        }
    }

    void due(String call, long got, long want) {
        asked++;
        if (got != want) {
            wrong++;
            tell(call + " answered " + got + ", due is " + want);
        }
    }

    void due(String call, boolean got, boolean want) {
        due(call, got ? 1 : 0, want ? 1 : 0);
    }

    /** THE VIEW is this fraction. */
    void seen(String name, Tireless t, BigInteger top, BigInteger bottom) {
        due(name + ": sign", t.size(0), top.signum());
        due(name + ": bits of the numerator", t.size(1), top.abs().bitLength());
        due(name + ": bits of the denominator", t.size(2), bottom.bitLength());
        for (int k = 0; k <= Math.max(top.abs().bitLength(), bottom.bitLength()) / 32 + 1; k++) {
            due(name + ": numerator, part " + k, t.bits(0, k), top.abs().shiftRight(32 * k).intValue());
            due(name + ": denominator, part " + k, t.bits(1, k), bottom.shiftRight(32 * k).intValue());
        }
    }

    void seen(String name, Tireless t, long top, long bottom) {
        seen(name, t, BigInteger.valueOf(top), BigInteger.valueOf(bottom));
    }

    /** What can be viewed there is this fraction. */
    void view(String name, Tireless t, int[] of, long top, long bottom) {
        due(name + ": view", t.view(of[0], of[1], of[2]), true);
        seen(name, t, top, bottom);
    }

    /** What can be viewed of a place's ways are these numerators and denominators, a pair for each way. */
    void ways(String name, Tireless t, int what, int place, long... pairs) {
        for (int way = 0; way < pairs.length / 2; way++) {
            view(name + ", way " + way, t, new int[] {what, place, way}, pairs[2 * way], pairs[2 * way + 1]);
        }
    }

    /** A call is refused, and leaves all that can be asked as it was. */
    void refused(String call, Tireless t, Predicate<Tireless> made) {
        String before = t.state();
        due(call, made.test(t), false);
        due(call + " does nothing", t.state().equals(before), true);
    }

    void end() {
        System.out.println(file + ": " + (tests > 0 ? tests + " tests, " + failedTests + " failed; " : "")
                + asked + " answers, " + wrong + " not as due");
        if (wrong != 0 || asked == 0) {
            System.exit(1);
        }
    }
}
