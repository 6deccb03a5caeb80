import java.util.NoSuchElementException;
import java.util.function.LongSupplier;

/** Compares answers with those that are due, and ends the test with 1 if one was not. */
final class Due {
    private static int wrong = 0;
    private static int asked = 0;
    private static String sentence = "";

    private Due() {
    }

    /** The sentence of the document that the answers from here on belong to; SentenceTest reads these, too. */
    static void about(String where, String words) {
        sentence = where + ": '" + words + "': ";
    }

    static void is(String call, long got, long want) {
        asked++;
        if (got != want) {
            fail(call + " answered " + got + ", due is " + want);
        }
    }

    private static void fail(String what) {
        wrong++;
        System.out.println(sentence + what);
    }

    static void isTrue(String call, boolean got) {
        is(call, got ? 1 : 0, 1);
    }

    static void isFalse(String call, boolean got) {
        is(call, got ? 1 : 0, 0);
    }

    static void none(String call, LongSupplier supplier) {
        asked++;
        try {
            long got = supplier.getAsLong();
            fail(call + " answered " + got + ", due is a NoSuchElementException");
        } catch (NoSuchElementException e) {
            if (e.getClass() != NoSuchElementException.class) {
                fail(call + " threw " + e.getClass());
            }
        }
    }

    static void same(String call, String got, String want) {
        asked++;
        if (!got.equals(want)) {
            fail(call + " answered " + got + ", due is " + want);
        }
    }

    static boolean anyWrong() {
        return wrong > 0;
    }

    static void finish() {
        if (wrong > 0 || asked == 0) {
            System.out.println(wrong + " of " + asked + " answers are not as due");
            System.exit(1);
        }
    }
}
