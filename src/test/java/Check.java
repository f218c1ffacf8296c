import java.util.NoSuchElementException;
import java.util.function.LongSupplier;
import java.util.function.ToLongFunction;

/** Counts the answers that are not as due, and ends the test with exit code 1 if there is one. */
final class Check {
    private final String name;
    private int asked = 0;
    private int wrong = 0;

    Check(String name) {
        this.name = name;
    }

    void due(String call, long got, long want) {
        asked++;
        if (got != want) {
            fail(call + " answered " + got + ", due is " + want);
        }
    }

    void due(String call, boolean got, boolean want) {
        due(call, got ? 1 : 0, want ? 1 : 0);
    }

    /** The call has to throw a NoSuchElementException. */
    void none(String call, LongSupplier asks) {
        asked++;
        try {
            fail(call + " answered " + asks.getAsLong() + ", due is a NoSuchElementException");
        } catch (NoSuchElementException e) {
            if (e.getClass() != NoSuchElementException.class) {
                fail(call + " threw " + e.getClass());
            }
        }
    }

    void same(String call, String got, String want) {
        asked++;
        if (!got.equals(want)) {
            fail(call + " told\n" + got + "\ndue is\n" + want);
        }
    }

    /** The call on a sample answers so, and leaves all else as it was. */
    void refused(String call, long want, ToLongFunction<MiddleAlgebras> asks) {
        MiddleAlgebras x = Sample.made();
        due(call, asks.applyAsLong(x), want);
        same(call + ": all else", Sample.told(x), Sample.TOLD);
    }

    /** The call on a sample throws a NoSuchElementException, and leaves all as it was. */
    void refusedByThrow(String call, ToLongFunction<MiddleAlgebras> asks) {
        MiddleAlgebras x = Sample.made();
        none(call, () -> asks.applyAsLong(x));
        same(call + ": all else", Sample.told(x), Sample.TOLD);
    }

    void fail(String what) {
        wrong++;
        if (wrong <= 40) {
            System.out.println(name + ": " + what);
        }
    }

    void end() {
        System.out.println(name + ": " + asked + " answers, " + wrong + " not as due");
        if (wrong != 0 || asked == 0) {
            System.exit(1);
        }
    }

    /** The text comes onto the tape, twenty bytes at a time; false if it has no room. */
    static boolean feed(MiddleAlgebras x, String text) {
        for (int from = 0; from < text.length(); from += 20) {
            int[] five = new int[5];
            for (int i = 0; i < 20; i++) {
                int sign = from + i < text.length() ? text.charAt(from + i) & 255 : 0;
                five[i / 4] |= sign << (24 - 8 * (i % 4));
            }
            if (x.feed(five[0], five[1], five[2], five[3], five[4]) == MiddleAlgebras.NONE) {
                return false;
            }
        }
        return true;
    }

    /** What text() answers for the text, on a tape that is empty ahead of it. */
    static int text(MiddleAlgebras x, String text) {
        feed(x, text);
        return x.text(text.length());
    }

    static MiddleAlgebras of(String text) {
        MiddleAlgebras x = new MiddleAlgebras();
        if (text(x, text) < 1) {
            throw new IllegalStateException("no text: " + text);
        }
        return x;
    }

    static MiddleAlgebras quaternion(int a, int b) {
        return of("quaternion h " + a + " " + b + ";");
    }

    /** What text() answers for a FAULT. */
    static int fault(int place, int kind) {
        return -2 - (8 * place + kind);
    }

    static boolean isPrime(int n) {
        for (int by = 2; by * by <= n; by++) {
            if (n % by == 0) {
                return false;
            }
        }
        return n > 1;
    }

    static boolean isSquareFree(int n) {
        for (int by = 2; by * by <= Math.abs(n); by++) {
            if (n % (by * by) == 0) {
                return false;
            }
        }
        return n != 0;
    }
}
