/** Section 3, promises 10 to 18: a method for each sentence that names a boundary; the sentence stands above it. */
public final class ElementsBoundsTest {
    private static final Check check = new Check("ElementsBoundsTest");
    private static final int MILLION = 1000000;
    /** The first numbers that are too great are 1,000,001 = FIRST * SECOND and 1,000,001 below 0. */
    private static final int FIRST = 101;
    private static final int SECOND = 9901;
    private static final int[] TOO_GREAT = {MILLION + 1, -MILLION - 1, Integer.MAX_VALUE, Integer.MIN_VALUE, Integer.MIN_VALUE + 1};

    public static void main(String[] args) {
        eightAreKept();
        tellLimits();
        tellRefused();
        lowestTerms();
        overLimits();
        overRefused();
        element();
        timesLimits();
        plusLimits();
        plusFactor();
        mirrorLimits();
        inverseLimits();
        inverseOfNormNought();
        slotsAndPairs();
        refusedIsNotKept();
        noneAheadOfRefused();
        normAndTrace();
        fractions();
        check.end();
    }

    // "ELEMENTS 0 to 7 are kept (none at first)".
    private static void eightAreKept() {
        MiddleAlgebras x = Check.quaternion(2, 3);
        for (int k = 0; k < 8; k++) {
            int slot = k;
            check.none("none at first: element(" + k + ", 0)", () -> x.element(slot, 0));
            check.due("tell(" + k + ", ..)", x.tell(k, 0, k, 0, 0, -k), true);
            check.due("count(1)", x.count(1), (2 << k) - 1);
        }
        for (int k = 0; k < 8; k++) {
            is("each its own", x, k, k, 0, 0, -k, 1);
        }
    }

    // "None of the five may be above 1,000,000, or below its negative". "a number too great (then nothing changes)".
    private static void tellLimits() {
        for (int at = 0; at < 4; at++) {
            for (int n : new int[] {MILLION, -MILLION, MILLION - 1, 1 - MILLION}) {
                MiddleAlgebras x = Check.quaternion(59, -59);
                check.due("tell " + n, tellAt(x, 0, at, n), true);
                check.due("told " + n, x.element(0, at), n);
                check.due("over 1", x.element(0, 4), 1);
            }
            for (int n : TOO_GREAT) {
                int place = at;
                check.refused("tell " + n + " anew", 0, x -> tellAt(x, Sample.HALF, place, n) ? 1 : 0);
                check.refused("tell " + n + " where none is", 0, x -> tellAt(x, Sample.EMPTY, place, n) ? 1 : 0);
            }
        }
    }

    private static boolean tellAt(MiddleAlgebras x, int k, int at, int n) {
        return x.tell(k, 0, at == 0 ? n : 1, at == 1 ? n : 1, at == 2 ? n : 1, at == 3 ? n : 1);
    }

    // "false: no such k, no quaternion ALGEBRA, a number too great (then nothing changes)".
    private static void tellRefused() {
        for (int k : Sample.NO_SLOTS) {
            check.refused("tell(" + k + ", ..)", 0, x -> x.tell(k, Sample.H, 1, 2, 3, 4) ? 1 : 0);
        }
        for (int algebra : Sample.NO_QUATERNIONS) {
            check.refused("tell(0, " + algebra + ", ..)", 0, x -> x.tell(0, algebra, 1, 2, 3, 4) ? 1 : 0);
            check.refused("tell(6, " + algebra + ", ..)", 0, x -> x.tell(Sample.EMPTY, algebra, 0, 0, 0, 0) ? 1 : 0);
        }
        MiddleAlgebras x = Sample.made();
        check.due("tell anew, of another ALGEBRA", x.tell(Sample.HALF, Sample.K, 4, 6, 8, 2), true);
        is("tell anew", x, Sample.HALF, 4, 6, 8, 2, 1);
        check.due("of another ALGEBRA", x.element(Sample.HALF, 5), Sample.K);
    }

    // "over one below them, above 0, in lowest terms (0: all 0 over 1)".
    private static void lowestTerms() {
        MiddleAlgebras x = Check.quaternion(-1, -1);
        x.tell(0, 0, 6, -12, 18, 24);
        x.over(0, 4);
        is("6 .. over 4", x, 0, 3, -6, 9, 12, 2);
        x.tell(0, 0, 6, -12, 18, 25);
        x.over(0, 6);
        is("one of the four without the divisor", x, 0, 6, -12, 18, 25, 6);
        x.tell(0, 0, 0, 0, -10, 0);
        x.over(0, 10);
        is("one alone", x, 0, 0, 0, -1, 0, 1);
        x.tell(1, 0, 0, 0, 0, 0);
        for (int n = 1; n <= 1000; n += 111) {
            check.due("0 over " + n, x.over(1, n), 0);
            is("0 over " + n, x, 1, 0, 0, 0, 0, 1);
        }
        check.due("0 times", x.times(0, 1, 2), 0);
        is("0 times", x, 2, 0, 0, 0, 0, 1);
        x.tell(3, 0, 1, 1, 1, 1);
        x.over(3, 1000);
        check.due("less itself", x.plus(3, 3, -1, 4), 0);
        is("less itself", x, 4, 0, 0, 0, 0, 1);
        check.due("mirror of 0", x.mirror(4, 5), 0);
        is("mirror of 0", x, 5, 0, 0, 0, 0, 1);
    }

    // "by n (1 to 1,000) less: 0; ..; -3: refused": what is below is 1,000,000 and 1,000,001.
    private static void overLimits() {
        MiddleAlgebras x = Check.quaternion(-1, -1);
        x.tell(0, 0, 1, 3, 7, 11);
        check.due("over 1", x.over(0, 1), 0);
        is("over 1", x, 0, 1, 3, 7, 11, 1);
        check.due("over 1000", x.over(0, 1000), 0);
        check.due("over 1000 more", x.over(0, 1000), 0);
        is("over 1,000,000", x, 0, 1, 3, 7, 11, MILLION);
        for (int n = 2; n <= 1000; n += 499) {
            check.due("over " + n + " more", x.over(0, n), -3);
            is("refused and not kept", x, 0, 1, 3, 7, 11, MILLION);
        }
        check.due("over 1 more", x.over(0, 1), 0);
        x.tell(1, 0, SECOND, 0, 0, 0);
        x.inverse(1, 1);
        is("over 9901", x, 1, 1, 0, 0, 0, SECOND);
        check.due("over 1,000,001", x.over(1, FIRST), -3);
        check.due("over 990,100", x.over(1, FIRST - 1), 0);
        is("over 990,100", x, 1, 1, 0, 0, 0, 990100);
        x.tell(2, 0, 0, 2, 0, 4);
        x.over(2, 1000);
        x.over(2, 1000);
        is("lowest terms", x, 2, 0, 1, 0, 2, MILLION / 2);
        check.due("lowest terms ahead of the limit", x.over(2, 2), 0);
        check.due("refused", x.over(2, 2), -3);
    }

    // "NONE: none kept, others".
    private static void overRefused() {
        for (int k : Sample.NOT_KEPT) {
            check.refused("over(" + k + ", 2)", -1, x -> x.over(k, 2));
        }
        for (int n : new int[] {0, -1, -2, -1000, 1001, 1002, Integer.MAX_VALUE, Integer.MIN_VALUE}) {
            check.refused("over(0, " + n + ")", -1, x -> x.over(Sample.HALF, n));
            check.refused("over(5, " + n + "), where it would be refused", -1, x -> x.over(Sample.MILLIONTH, n));
        }
        check.refused("over(5, 2)", -3, x -> x.over(Sample.MILLIONTH, 2));
        check.refused("over(5, 1000)", -3, x -> x.over(Sample.MILLIONTH, 1000));
    }

    // "what 0 to 3: its whole numbers, 4: what is below them, 5: its ALGEBRA; NoSuchElementException: none kept, others."
    private static void element() {
        MiddleAlgebras x = Sample.made();
        is("half", x, Sample.HALF, 1, 1, 1, 1, 2);
        is("beyond 100", x, Sample.BEYOND, 1, FIRST, 0, 0, 1);
        check.due("ALGEBRA", x.element(Sample.HALF, 5), Sample.H);
        check.due("ALGEBRA", x.element(Sample.THIRD, 5), Sample.K);
        for (int what : new int[] {-1, 6, 7, Integer.MAX_VALUE, Integer.MIN_VALUE}) {
            check.refusedByThrow("element(0, " + what + ")", y -> y.element(Sample.HALF, what));
        }
        for (int k : Sample.NOT_KEPT) {
            for (int what = 0; what <= 5; what++) {
                int asked = what;
                check.refusedByThrow("element(" + k + ", " + what + ")", y -> y.element(k, asked));
            }
        }
    }

    // "what would come to such a one is refused (-3) and not kept": each of the five, above and below 0.
    private static void timesLimits() {
        for (int at = 0; at < 4; at++) {
            for (int sign = -1; sign <= 1; sign += 2) {
                MiddleAlgebras x = Check.quaternion(1, 1);
                x.tell(0, 0, 1000 * sign, 0, 0, 0);
                unit(x, 1, at, 1000);
                check.due("1,000,000 at " + at, x.times(0, 1, 2), 0);
                check.due("1,000,000 at " + at, x.element(2, at), MILLION * sign);
                x.tell(0, 0, FIRST * sign, 0, 0, 0);
                unit(x, 1, at, SECOND);
                check.due("1,000,001 at " + at, x.times(0, 1, 2), -3);
                check.due("1,000,001 where none is, at " + at, x.times(1, 0, 3), -3);
                check.due("refused and not kept", x.element(2, at), MILLION * sign);
                check.due("refused and not kept", x.count(1), 7);
            }
        }
        MiddleAlgebras x = Check.quaternion(1, 1);
        oneOver(x, 0, 1000);
        check.due("over 1,000,000", x.times(0, 0, 1), 0);
        is("over 1,000,000", x, 1, 1, 0, 0, 0, MILLION);
        oneOver(x, 2, FIRST);
        oneOver(x, 3, SECOND);
        check.due("over 1,000,001", x.times(2, 3, 4), -3);
        check.due("count(1)", x.count(1), 15);
        x.tell(5, 0, FIRST, 0, 0, 0);
        check.due("lowest terms ahead of the limit", x.times(1, 5, 6), 0);
        check.due("lowest terms ahead of the limit", x.times(2, 5, 6), 0);
        is("1", x, 6, 1, 0, 0, 0, 1);
        // The greatest numbers that can be made on the way: they do not wrap around.
        MiddleAlgebras y = Check.quaternion(-59, -59);
        y.tell(0, 0, MILLION, MILLION, MILLION, MILLION);
        y.tell(1, 0, -MILLION, -MILLION, -MILLION, -MILLION);
        check.due("greatest", y.times(0, 0, 2), -3);
        check.due("greatest", y.times(0, 1, 2), -3);
        check.due("greatest", y.times(1, 1, 2), -3);
    }

    private static void plusLimits() {
        for (int at = 0; at < 4; at++) {
            for (int sign = -1; sign <= 1; sign += 2) {
                MiddleAlgebras x = Check.quaternion(1, 1);
                unit(x, 0, at, 999000 * sign);
                unit(x, 1, at, sign);
                check.due("1,000,000 at " + at, x.plus(0, 1, 1000, 2), 0);
                check.due("1,000,000 at " + at, x.element(2, at), MILLION * sign);
                check.due("1,000,001 at " + at, x.plus(2, 1, 1, 3), -3);
                check.due("1,000,001 anew, at " + at, x.plus(2, 1, 1, 2), -3);
                check.due("refused and not kept", x.element(2, at), MILLION * sign);
                check.due("refused and not kept", x.count(1), 7);
                check.due("999,999 at " + at, x.plus(2, 1, -1, 3), 0);
                check.due("999,999 at " + at, x.element(3, at), 999999 * sign);
            }
        }
        MiddleAlgebras x = Check.quaternion(1, 1);
        oneOver(x, 0, 64);
        oneOver(x, 1, 15625);
        check.due("over 1,000,000", x.plus(0, 1, 1, 2), 0);
        is("over 1,000,000", x, 2, 15689, 0, 0, 0, MILLION);
        oneOver(x, 0, FIRST);
        oneOver(x, 1, SECOND);
        check.due("over 1,000,001", x.plus(0, 1, 1, 2), -3);
        is("refused and not kept", x, 2, 15689, 0, 0, 0, MILLION);
        check.due("over 1,000,001, 0 times", x.plus(0, 1, 0, 3), 0);
        is("0 times", x, 3, 1, 0, 0, 0, FIRST);
        check.due("lowest terms ahead of the limit", x.plus(0, 0, 100, 4), 0);
        is("lowest terms", x, 4, 1, 0, 0, 0, 1);
        MiddleAlgebras y = Check.quaternion(1, 1);
        y.tell(0, 0, MILLION, -MILLION, MILLION, -MILLION);
        for (int m : new int[] {1000, -1000, 1, -3}) {
            check.due("greatest, " + m + " times", y.plus(0, 0, m, 1), -3);
        }
        check.due("greatest, -2 times", y.plus(0, 0, -2, 1), 0);
        is("greatest, -2 times", y, 1, -MILLION, MILLION, -MILLION, MILLION, 1);
    }

    // "m times another one, together (m -1,000 to 1,000)".
    private static void plusFactor() {
        for (int m : new int[] {-1000, -999, -1, 0, 1, 999, 1000}) {
            MiddleAlgebras x = Check.quaternion(1, 1);
            x.tell(0, 0, 5, 0, 0, -5);
            x.tell(1, 0, 0, 2, 0, 3);
            check.due("plus(0, 1, " + m + ", 2)", x.plus(0, 1, m, 2), 0);
            is(m + " times", x, 2, 5, 2 * m, 0, 3 * m - 5, 1);
        }
        for (int m : new int[] {1001, -1001, 1002, -2000, Integer.MAX_VALUE, Integer.MIN_VALUE}) {
            check.refused("plus(0, 1, " + m + ", 6)", -1, x -> x.plus(Sample.HALF, Sample.SMALL, m, Sample.EMPTY));
            check.refused("plus(0, 1, " + m + ", 0)", -1, x -> x.plus(Sample.HALF, Sample.SMALL, m, Sample.HALF));
        }
    }

    // "MIRROR: i, j, k with the other sign."
    private static void mirrorLimits() {
        MiddleAlgebras x = Check.quaternion(1, 1);
        x.tell(0, 0, -MILLION, MILLION, -MILLION, 0);
        check.due("mirror", x.mirror(0, 7), 0);
        is("mirror", x, 7, -MILLION, -MILLION, MILLION, 0, 1);
        oneOver(x, 1, MILLION);
        check.due("mirror to itself", x.mirror(1, 1), 0);
        is("mirror", x, 1, 1, 0, 0, 0, MILLION);
    }

    // In the ALGEBRA of 1 and 1 the NORM of n + n * i + k is 1: by d less it has the inverse d * n .. .
    private static void inverseLimits() {
        for (int sign = -1; sign <= 1; sign += 2) {
            MiddleAlgebras x = Check.quaternion(1, 1);
            x.tell(0, 0, 10000 * sign, 10000, 0, 1);
            x.over(0, 100);
            check.due("1,000,000", x.inverse(0, 1), 0);
            is("1,000,000", x, 1, MILLION * sign, -MILLION, 0, -100, 1);
            x.tell(0, 0, SECOND * sign, SECOND, 0, 1);
            x.over(0, FIRST);
            check.due("1,000,001", x.inverse(0, 1), -3);
            check.due("1,000,001 where none is", x.inverse(0, 2), -3);
            is("refused and not kept", x, 1, MILLION * sign, -MILLION, 0, -100, 1);
            check.due("refused and not kept", x.count(1), 3);
        }
        MiddleAlgebras x = Check.quaternion(10, -1);
        x.tell(0, 0, 0, 100000, 0, 0);
        check.due("over 1,000,000", x.inverse(0, 1), 0);
        is("over 1,000,000", x, 1, 0, 1, 0, 0, MILLION);
        x.tell(0, 0, 0, 100001, 0, 0);
        check.due("over 1,000,010", x.inverse(0, 1), -3);
        x.tell(0, 0, 1000, 0, 1, 0);
        check.due("over 1,000,001", x.inverse(0, 1), -3);
        x.tell(0, 0, 999, 0, 1, 0);
        check.due("over 998,002", x.inverse(0, 2), 0);
        is("over 998,002", x, 2, 999, 0, -1, 0, 998002);
        is("refused and not kept", x, 1, 0, 1, 0, 0, MILLION);
        x.tell(3, 0, 0, 0, 0, -1);
        check.due("of a NORM below 0", x.inverse(3, 3), 0);
        is("of a NORM below 0", x, 3, 0, 0, 0, -1, 10);
        x.tell(4, 0, MILLION, MILLION, MILLION, MILLION);
        check.due("over 18,000,000", x.inverse(4, 5), -3);
        x.over(4, 1000);
        check.due("over 18,000", x.inverse(4, 5), 0);
        is("over 18,000", x, 5, -1, 1, 1, 1, 18000);
    }

    // "-2: there is none (the NORM is 0; ahead of -3)".
    private static void inverseOfNormNought() {
        check.refused("inverse of NORM 0", -2, x -> x.inverse(Sample.NORM_NOUGHT, Sample.EMPTY));
        check.refused("inverse of NORM 0, to itself", -2, x -> x.inverse(Sample.NORM_NOUGHT, Sample.NORM_NOUGHT));
        MiddleAlgebras x = Check.of("quaternion h 1 1;quaternion k -1 -1;");
        int[][] nought = {{0, 0, 0, 0}, {1, 1, 0, 0}, {MILLION, -MILLION, 0, 0}, {MILLION, MILLION, MILLION, MILLION}, {3, 5, 5, 5}};
        for (int at = 0; at < 5; at++) {
            int[] n = nought[at];
            x.tell(0, 0, n[0], n[1], n[2], n[3]);
            boolean none = x.norm(0, 0) == 0;
            check.due("NORM 0 of no. " + at, none, at < 4);
            check.due("inverse of no. " + at, x.inverse(0, 1), none ? -2 : 0);
        }
        x.tell(2, 1, 0, 0, 0, 0);
        check.due("inverse of 0", x.inverse(2, 3), -2);
        x.tell(2, 1, 0, 0, 0, 1);
        check.due("inverse of k", x.inverse(2, 3), 0);
        is("inverse of k", x, 3, 0, 0, 0, -1, 1);
    }

    // "NONE: none kept, not of one ALGEBRA, no such to".
    private static void slotsAndPairs() {
        for (int k : Sample.NOT_KEPT) {
            check.refused("times(" + k + ", 0, 0)", -1, x -> x.times(k, 0, 0));
            check.refused("times(0, " + k + ", 0)", -1, x -> x.times(0, k, 0));
            check.refused("times(" + k + ", " + k + ", 0)", -1, x -> x.times(k, k, 0));
            check.refused("plus(" + k + ", 0, 1, 0)", -1, x -> x.plus(k, 0, 1, 0));
            check.refused("plus(0, " + k + ", 0, 0)", -1, x -> x.plus(0, k, 0, 0));
            check.refused("mirror(" + k + ", 0)", -1, x -> x.mirror(k, 0));
            check.refused("inverse(" + k + ", 0)", -1, x -> x.inverse(k, 0));
        }
        for (int to : Sample.NO_SLOTS) {
            check.refused("times(0, 1, " + to + ")", -1, x -> x.times(0, 1, to));
            check.refused("plus(0, 1, 1, " + to + ")", -1, x -> x.plus(0, 1, 1, to));
            check.refused("mirror(0, " + to + ")", -1, x -> x.mirror(0, to));
            check.refused("inverse(0, " + to + ")", -1, x -> x.inverse(0, to));
        }
        check.refused("times of two ALGEBRAS", -1, x -> x.times(Sample.HALF, Sample.THIRD, Sample.EMPTY));
        check.refused("times of two ALGEBRAS", -1, x -> x.times(Sample.THIRD, Sample.HALF, Sample.EMPTY));
        check.refused("plus of two ALGEBRAS", -1, x -> x.plus(Sample.HALF, Sample.THIRD, 1, Sample.EMPTY));
        check.refused("plus of two ALGEBRAS, 0 times", -1, x -> x.plus(Sample.THIRD, Sample.HALF, 0, Sample.EMPTY));
        // Where the one of another ALGEBRA was, one may come.
        MiddleAlgebras x = Sample.made();
        check.due("times to one of another ALGEBRA", x.times(Sample.HALF, Sample.SMALL, Sample.THIRD), 0);
        is("times to one of another ALGEBRA", x, Sample.THIRD, 0, 1, 1, 0, 1);
        check.due("its ALGEBRA", x.element(Sample.THIRD, 5), Sample.H);
        check.due("to the last", x.mirror(Sample.SMALL, 7), 0);
        check.due("to the first", x.mirror(7, 0), 0);
        is("to the first", x, 0, 1, 1, 0, 0, 1);
    }

    private static void refusedIsNotKept() {
        check.refused("times, -3", -3, x -> x.times(Sample.GREAT, Sample.GREAT, Sample.EMPTY));
        check.refused("times, -3, anew", -3, x -> x.times(Sample.GREAT, Sample.GREAT, Sample.HALF));
        check.refused("times, -3, to itself", -3, x -> x.times(Sample.GREAT, Sample.BEYOND, Sample.GREAT));
        check.refused("plus, -3", -3, x -> x.plus(Sample.GREAT, Sample.SMALL, 1, Sample.EMPTY));
        check.refused("plus, -3, anew", -3, x -> x.plus(Sample.GREAT, Sample.SMALL, 1, Sample.SMALL));
        check.refused("inverse, -3", -3, x -> x.inverse(Sample.GREAT, Sample.EMPTY));
        check.refused("inverse, -3, to itself", -3, x -> x.inverse(Sample.GREAT, Sample.GREAT));
    }

    // A call that is refused for its numbers, with what is not kept or no such to beside: NONE stands ahead of -2 and -3.
    private static void noneAheadOfRefused() {
        check.refused("times, -3, no such to", -1, x -> x.times(Sample.GREAT, Sample.GREAT, 8));
        check.refused("plus, -3, no such to", -1, x -> x.plus(Sample.GREAT, Sample.GREAT, 1, -1));
        check.refused("inverse, -3, no such to", -1, x -> x.inverse(Sample.GREAT, 8));
        check.refused("inverse, -2, no such to", -1, x -> x.inverse(Sample.NORM_NOUGHT, 8));
        check.refused("times, -3 by itself, not of one ALGEBRA", -1, x -> x.times(Sample.GREAT, Sample.MILLIONTH, 6));
    }

    // "above (what 0), below (1); NoSuchElementException: none kept, others."
    private static void normAndTrace() {
        MiddleAlgebras x = Sample.made();
        check.due("norm of half", x.norm(Sample.HALF, 0), 1);
        check.due("norm of half", x.norm(Sample.HALF, 1), 1);
        check.due("trace of half", x.trace(Sample.HALF, 0), 1);
        check.due("trace of half", x.trace(Sample.HALF, 1), 1);
        for (int what : new int[] {-1, 2, 3, Integer.MAX_VALUE, Integer.MIN_VALUE}) {
            check.refusedByThrow("norm(0, " + what + ")", y -> y.norm(Sample.HALF, what));
            check.refusedByThrow("trace(0, " + what + ")", y -> y.trace(Sample.HALF, what));
        }
        for (int k : Sample.NOT_KEPT) {
            for (int what = 0; what < 2; what++) {
                int asked = what;
                check.refusedByThrow("norm(" + k + ", " + what + ")", y -> y.norm(k, asked));
                check.refusedByThrow("trace(" + k + ", " + what + ")", y -> y.trace(k, asked));
            }
        }
    }

    // "FRACTIONS are told in lowest terms, the sign above, 0 as 0 over 1." The greatest that there are do not wrap around.
    private static void fractions() {
        MiddleAlgebras x = Check.of("quaternion h -59 -59;quaternion k 59 59;quaternion l 59 -59;");
        x.tell(0, 0, MILLION, MILLION, MILLION, MILLION);
        fraction("greatest norm", x.norm(0, 0), x.norm(0, 1), 3600L * MILLION * MILLION, 1);
        fraction("greatest trace", x.trace(0, 0), x.trace(0, 1), 2 * MILLION, 1);
        x.tell(1, 2, -MILLION, MILLION, 0, MILLION);
        fraction("least norm", x.norm(1, 0), x.norm(1, 1), -3539L * MILLION * MILLION, 1);
        fraction("least trace", x.trace(1, 0), x.trace(1, 1), -2 * MILLION, 1);
        x.tell(2, 1, 0, 1, 0, 0);
        x.over(2, 1000);
        x.over(2, 1000);
        fraction("over 1,000,000 twice", x.norm(2, 0), x.norm(2, 1), -59, 1L * MILLION * MILLION);
        fraction("trace 0", x.trace(2, 0), x.trace(2, 1), 0, 1);
        x.tell(3, 1, 1, 0, 0, 0);
        x.over(3, 1000);
        x.over(3, 1000);
        fraction("trace over 500,000", x.trace(3, 0), x.trace(3, 1), 1, MILLION / 2);
        x.tell(4, 1, -1, 0, 0, 1);
        x.over(4, 6);
        fraction("norm in lowest terms", x.norm(4, 0), x.norm(4, 1), 1741, 18);
        fraction("trace in lowest terms", x.trace(4, 0), x.trace(4, 1), -1, 3);
        x.tell(5, 1, 0, 1, 1, 0);
        fraction("norm below 0", x.norm(5, 0), x.norm(5, 1), -118, 1);
        MiddleAlgebras y = Check.quaternion(1, 1);
        y.tell(0, 0, 1, 1, 0, 0);
        y.over(0, 7);
        fraction("norm 0", y.norm(0, 0), y.norm(0, 1), 0, 1);
        fraction("trace", y.trace(0, 0), y.trace(0, 1), 2, 7);
    }

    private static void fraction(String of, long above, long below, long dueAbove, long dueBelow) {
        check.due(of + ", above", above, dueAbove);
        check.due(of + ", below", below, dueBelow);
    }

    private static void unit(MiddleAlgebras x, int k, int at, int n) {
        x.tell(k, 0, at == 0 ? n : 0, at == 1 ? n : 0, at == 2 ? n : 0, at == 3 ? n : 0);
    }

    private static void oneOver(MiddleAlgebras x, int k, int n) {
        x.tell(k, 0, n, 0, 0, 0);
        x.inverse(k, k);
    }

    private static void is(String call, MiddleAlgebras x, int k, long... five) {
        for (int what = 0; what < 5; what++) {
            check.due(call + ": element(" + k + ", " + what + ")", x.element(k, what), five[what]);
        }
    }
}
