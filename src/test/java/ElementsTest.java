import java.math.BigInteger;

/** Promises 10 (tell), 11 (over), 12 (element), 13 (times), 14 (plus), 15 (mirror), 16 (inverse), 17 (norm), 18 (trace). */
public final class ElementsTest {
    private static final Check check = new Check("ElementsTest");
    private static final int MILLION = 1000000;

    public static void main(String[] args) {
        tell();
        over();
        element();
        times();
        plus();
        mirror();
        inverse();
        normAndTrace();
        pairsThatDoNotFit();
        toItself();
        mixedCalls();
        check.end();
    }

    private static MiddleAlgebras two() {
        return Check.of("quaternion h -1 -1;quaternion k 7 2;cyclic c 7 2;sum s +h;");
    }

    private static void tell() {
        MiddleAlgebras x = two();
        check.due("tell", x.tell(0, 0, 1, -2, 3, -4), true);
        is("tell", x, 0, 0, 1, -2, 3, -4, 1);
        check.due("tell 0", x.tell(7, 1, 0, 0, 0, 0), true);
        is("tell 0", x, 7, 1, 0, 0, 0, 0, 1);
        check.due("tell 2", x.tell(7, 1, 2, 4, 6, 8), true);
        is("tell keeps what is alike in all four", x, 7, 1, 2, 4, 6, 8, 1);
        check.due("tell greatest", x.tell(1, 0, MILLION, -MILLION, MILLION, -MILLION), true);
        is("tell greatest", x, 1, 0, MILLION, -MILLION, MILLION, -MILLION, 1);
        int[] great = {MILLION + 1, -MILLION - 1, Integer.MAX_VALUE, Integer.MIN_VALUE};
        for (int n : great) {
            check.due("tell " + n, x.tell(1, 0, n, 0, 0, 0), false);
            check.due("tell " + n, x.tell(1, 0, 0, n, 0, 0), false);
            check.due("tell " + n, x.tell(1, 0, 0, 0, n, 0), false);
            check.due("tell " + n, x.tell(2, 0, 0, 0, 0, n), false);
        }
        check.due("tell(8, ..)", x.tell(8, 0, 1, 1, 1, 1), false);
        check.due("tell(-1, ..)", x.tell(-1, 0, 1, 1, 1, 1), false);
        check.due("tell of a cyclic one", x.tell(1, 2, 1, 1, 1, 1), false);
        check.due("tell of a sum", x.tell(1, 3, 1, 1, 1, 1), false);
        check.due("tell of none", x.tell(1, 4, 1, 1, 1, 1), false);
        check.due("tell of -1", x.tell(1, -1, 1, 1, 1, 1), false);
        is("nothing changes", x, 1, 0, MILLION, -MILLION, MILLION, -MILLION, 1);
        check.due("count(1)", x.count(1), 1 + 2 + 128);
        check.due("tell anew", x.tell(0, 1, 5, 0, 0, 0), true);
        is("tell anew", x, 0, 1, 5, 0, 0, 0, 1);
    }

    private static void over() {
        MiddleAlgebras x = two();
        check.due("over of none", x.over(0, 2), -1);
        x.tell(0, 1, 6, -12, 18, 0);
        check.due("over 4", x.over(0, 4), 0);
        is("over 4", x, 0, 1, 3, -6, 9, 0, 2);
        check.due("over 1", x.over(0, 1), 0);
        is("over 1", x, 0, 1, 3, -6, 9, 0, 2);
        int[] others = {0, -1, 1001, Integer.MAX_VALUE, Integer.MIN_VALUE};
        for (int n : others) {
            check.due("over " + n, x.over(0, n), -1);
        }
        check.due("over(-1, 2)", x.over(-1, 2), -1);
        check.due("over(8, 2)", x.over(8, 2), -1);
        check.due("over 1000", x.over(0, 1000), 0);
        check.due("over 500", x.over(0, 500), 0);
        is("below 1,000,000", x, 0, 1, 3, -6, 9, 0, MILLION);
        check.due("over 2", x.over(0, 2), -3);
        check.due("over 3", x.over(0, 3), 0);
        is("over 3", x, 0, 1, 1, -2, 3, 0, MILLION);
        check.due("over 1000", x.over(0, 1000), -3);
        is("refused, not kept", x, 0, 1, 1, -2, 3, 0, MILLION);
        x.tell(1, 0, 0, 0, 0, 0);
        check.due("0 over 1000", x.over(1, 1000), 0);
        is("0 over 1000", x, 1, 0, 0, 0, 0, 0, 1);
    }

    private static void element() {
        MiddleAlgebras x = two();
        x.tell(2, 1, 5, 6, 7, 8);
        x.over(2, 3);
        long[] due = {5, 6, 7, 8, 3, 1};
        for (int what = 0; what < 6; what++) {
            check.due("element(2, " + what + ")", x.element(2, what), due[what]);
        }
        int[][] others = {{2, 6}, {2, -1}, {1, 0}, {3, 5}, {-1, 0}, {8, 0}, {Integer.MAX_VALUE, 0}, {Integer.MIN_VALUE, 0}};
        for (int[] one : others) {
            check.none("element(" + one[0] + ", " + one[1] + ")", () -> x.element(one[0], one[1]));
        }
    }

    private static void times() {
        MiddleAlgebras x = Check.quaternion(-6, 10);
        // i, j, k of each other: i * i = A, j * j = B, k * k = -A * B, and each pair either way round.
        long[][] due = {{1, 1, -6, 0, 0, 0}, {2, 2, 10, 0, 0, 0}, {3, 3, 60, 0, 0, 0}, {1, 2, 0, 0, 0, 1}, {2, 1, 0, 0, 0, -1},
            {1, 3, 0, 0, -6, 0}, {3, 1, 0, 0, 6, 0}, {2, 3, 0, -10, 0, 0}, {3, 2, 0, 10, 0, 0}, {0, 2, 0, 0, 1, 0}};
        for (int t = 0; t < 4; t++) {
            x.tell(t, 0, t == 0 ? 1 : 0, t == 1 ? 1 : 0, t == 2 ? 1 : 0, t == 3 ? 1 : 0);
        }
        for (long[] one : due) {
            check.due("times(" + one[0] + ", " + one[1] + ", 4)", x.times((int) one[0], (int) one[1], 4), 0);
            is("times(" + one[0] + ", " + one[1] + ")", x, 4, 0, one[2], one[3], one[4], one[5], 1);
        }
        x.tell(5, 0, 1000, 0, 0, 0);
        check.due("1,000,000", x.times(5, 5, 6), 0);
        is("1,000,000", x, 6, 0, MILLION, 0, 0, 0, 1);
        x.tell(7, 0, 1001, 0, 0, 0);
        check.due("1,001,000", x.times(5, 7, 6), -3);
        is("refused, not kept", x, 6, 0, MILLION, 0, 0, 0, 1);
        check.due("refused, none kept", new MiddleAlgebras().times(0, 0, 0), -1);
        x.over(7, 1000);
        x.over(6, 1000);
        check.due("lowest terms ahead of the limit", x.times(6, 7, 6), 0);
        is("lowest terms", x, 6, 0, 1001, 0, 0, 0, 1);
    }

    private static void plus() {
        MiddleAlgebras x = Check.quaternion(2, 3);
        x.tell(0, 0, 1, 2, 3, 4);
        x.over(0, 2);
        x.tell(1, 0, 1, -1, 2, 0);
        x.over(1, 3);
        check.due("plus", x.plus(0, 1, -3, 2), 0);
        is("plus", x, 2, 0, -1, 4, -1, 4, 2);
        check.due("plus 0 times", x.plus(0, 1, 0, 2), 0);
        is("plus 0 times", x, 2, 0, 1, 2, 3, 4, 2);
        check.due("plus 1000 times", x.plus(0, 1, 1000, 2), 0);
        is("plus 1000 times", x, 2, 0, 2003, -1994, 4009, 12, 6);
        check.due("plus -1000 times", x.plus(0, 1, -1000, 2), 0);
        is("plus -1000 times", x, 2, 0, -1997, 2006, -3991, 12, 6);
        check.due("plus 1001 times", x.plus(0, 1, 1001, 2), -1);
        check.due("plus -1001 times", x.plus(0, 1, -1001, 2), -1);
        check.due("plus greatest times", x.plus(0, 1, Integer.MAX_VALUE, 2), -1);
        check.due("plus least times", x.plus(0, 1, Integer.MIN_VALUE, 2), -1);
        is("nothing kept", x, 2, 0, -1997, 2006, -3991, 12, 6);
        check.due("less itself", x.plus(0, 0, -1, 3), 0);
        is("less itself", x, 3, 0, 0, 0, 0, 0, 1);
        x.tell(4, 0, 0, 1000, 0, 0);
        x.tell(5, 0, 0, 1, 0, 0);
        check.due("1,000,000", x.plus(3, 4, 1000, 6), 0);
        is("1,000,000", x, 6, 0, 0, MILLION, 0, 0, 1);
        check.due("1,000,001", x.plus(5, 4, 1000, 6), -3);
        is("refused", x, 6, 0, 0, MILLION, 0, 0, 1);
    }

    private static void mirror() {
        MiddleAlgebras x = two();
        x.tell(0, 1, 3, -4, 5, MILLION);
        x.over(0, 7);
        check.due("mirror", x.mirror(0, 1), 0);
        is("mirror", x, 1, 1, 3, 4, -5, -MILLION, 7);
        is("the one itself stays", x, 0, 1, 3, -4, 5, MILLION, 7);
        check.due("mirror of none", x.mirror(2, 1), -1);
        check.due("mirror to 8", x.mirror(0, 8), -1);
        check.due("mirror to -1", x.mirror(0, -1), -1);
        check.due("mirror(-1, 0)", x.mirror(-1, 0), -1);
        check.due("mirror(8, 0)", x.mirror(8, 0), -1);
    }

    private static void inverse() {
        MiddleAlgebras x = Check.of("quaternion h -1 -1;quaternion k 1 5;quaternion l 7 2;");
        x.tell(0, 0, 1, 1, 1, 1);
        check.due("inverse", x.inverse(0, 1), 0);
        is("inverse", x, 1, 0, 1, -1, -1, -1, 4);
        x.tell(2, 1, 1, 1, 0, 0);
        check.due("inverse of NORM 0", x.inverse(2, 3), -2);
        x.tell(2, 1, 0, 0, 0, 0);
        check.due("inverse of 0", x.inverse(2, 3), -2);
        x.tell(2, 1, MILLION, MILLION, 0, 0);
        check.due("-2 ahead of -3", x.inverse(2, 3), -2);
        check.none("none kept", () -> x.element(3, 0));
        // The NORM is -7: what is below stays above 0.
        x.tell(4, 2, 0, 1, 0, 0);
        check.due("inverse of i", x.inverse(4, 5), 0);
        is("inverse of i", x, 5, 2, 0, 1, 0, 0, 7);
        x.tell(4, 2, 1, 1, 0, 0);
        x.over(4, 3);
        check.due("NORM below 0", x.inverse(4, 5), 0);
        is("NORM below 0", x, 5, 2, -1, 1, 0, 0, 2);
        x.tell(6, 0, 1000, 1, 0, 0);
        check.due("below 1,000,001", x.inverse(6, 7), -3);
        x.tell(6, 0, 999, 1, 0, 0);
        check.due("below 998,002", x.inverse(6, 7), 0);
        is("below 998,002", x, 7, 0, 999, -1, 0, 0, 998002);
        check.due("inverse of none", x.inverse(3, 0), -1);
        check.due("inverse to 8", x.inverse(0, 8), -1);
        check.due("inverse to -1", x.inverse(2, -1), -1);
        check.due("inverse(-1, 0)", x.inverse(-1, 0), -1);
        check.due("inverse(8, 0)", x.inverse(8, 0), -1);
    }

    private static void normAndTrace() {
        MiddleAlgebras x = Check.of("quaternion h 59 -59;quaternion k -59 -58;");
        x.tell(0, 0, 1, 2, 3, 4);
        x.over(0, 6);
        // 1 - 59 * 4 + 59 * 9 - 59 * 59 * 16 = -55400, over 36.
        check.due("norm above", x.norm(0, 0), -13850);
        check.due("norm below", x.norm(0, 1), 9);
        check.due("trace above", x.trace(0, 0), 1);
        check.due("trace below", x.trace(0, 1), 3);
        x.tell(1, 1, MILLION, -MILLION, MILLION, -MILLION);
        check.due("greatest norm", x.norm(1, 0), 3540L * MILLION * MILLION);
        check.due("greatest norm", x.norm(1, 1), 1);
        check.due("trace", x.trace(1, 0), 2 * MILLION);
        x.tell(2, 1, 0, 0, 0, 0);
        check.due("norm of 0", x.norm(2, 0), 0);
        check.due("norm of 0 below", x.norm(2, 1), 1);
        check.due("trace of 0", x.trace(2, 0), 0);
        check.due("trace of 0 below", x.trace(2, 1), 1);
        x.tell(2, 0, 0, 1, 0, 0);
        x.over(2, 1000);
        x.over(2, 1000);
        check.due("norm", x.norm(2, 0), -59);
        check.due("greatest below", x.norm(2, 1), 1000000000000L);
        check.due("trace of i", x.trace(2, 1), 1);
        int[][] others = {{0, 2}, {0, -1}, {3, 0}, {-1, 0}, {8, 1}, {Integer.MAX_VALUE, 0}, {Integer.MIN_VALUE, 1}};
        for (int[] one : others) {
            check.none("norm(" + one[0] + ", " + one[1] + ")", () -> x.norm(one[0], one[1]));
            check.none("trace(" + one[0] + ", " + one[1] + ")", () -> x.trace(one[0], one[1]));
        }
    }

    private static void pairsThatDoNotFit() {
        MiddleAlgebras x = two();
        x.tell(0, 0, 1, 2, 3, 4);
        x.tell(1, 1, 1, 2, 3, 4);
        int[][] pairs = {{0, 1, 2}, {1, 0, 2}, {0, 2, 3}, {2, 0, 3}, {0, -1, 3}, {-1, 0, 3}, {0, 8, 3}, {8, 0, 3}, {0, 0, 8}, {0, 0, -1}};
        for (int[] one : pairs) {
            String of = "(" + one[0] + ", " + one[1] + ", " + one[2] + ")";
            check.due("times" + of, x.times(one[0], one[1], one[2]), -1);
            check.due("plus" + of, x.plus(one[0], one[1], 1, one[2]), -1);
        }
        check.due("nothing kept", x.count(1), 3);
        // Of one CLASS, yet not one ALGEBRA.
        MiddleAlgebras y = Check.of("quaternion a -1 -1;quaternion b -1 -1;");
        y.tell(0, 0, 1, 0, 0, 0);
        y.tell(1, 1, 1, 0, 0, 0);
        check.due("times", y.times(0, 1, 2), -1);
        check.due("plus", y.plus(0, 1, 1, 2), -1);
    }

    private static void toItself() {
        MiddleAlgebras x = Check.quaternion(-1, -1);
        x.tell(0, 0, 1, 2, 0, 0);
        x.tell(1, 0, 0, 0, 3, 1);
        check.due("times to the first", x.times(0, 1, 0), 0);
        is("times to the first", x, 0, 0, 0, 0, 1, 7, 1);
        check.due("times to the second", x.times(0, 1, 1), 0);
        is("times to the second", x, 1, 0, -10, -20, 0, 0, 1);
        check.due("times all alike", x.times(1, 1, 1), 0);
        is("times all alike", x, 1, 0, -300, 400, 0, 0, 1);
        check.due("plus all alike", x.plus(1, 1, 2, 1), 0);
        is("plus all alike", x, 1, 0, -900, 1200, 0, 0, 1);
        check.due("mirror to itself", x.mirror(1, 1), 0);
        is("mirror to itself", x, 1, 0, -900, -1200, 0, 0, 1);
        check.due("inverse to itself", x.inverse(0, 0), 0);
        is("inverse to itself", x, 0, 0, 0, 0, -1, -7, 50);
    }

    /** Many calls in a row, each against fractions that never grow too great. */
    private static void mixedCalls() {
        Lot lot = new Lot(11);
        for (int run = 0; run < 400; run++) {
            int a = lot.squareFree();
            int b = lot.squareFree();
            MiddleAlgebras x = Check.quaternion(a, b);
            Quaternion[] kept = new Quaternion[8];
            int most = run % 4 == 0 ? MILLION : run % 4 == 1 ? 1000 : 9;
            for (int k = 0; k < 8; k++) {
                int[] n = {lot.between(-most, most), lot.between(-most, most), lot.between(-most, most), lot.between(-most, most)};
                x.tell(k, 0, n[0], n[1], n[2], n[3]);
                kept[k] = Quaternion.of(a, b, 1, n[0], n[1], n[2], n[3]);
            }
            for (int call = 0; call < 60; call++) {
                mixedCall(x, kept, lot);
            }
        }
    }

    private static void mixedCall(MiddleAlgebras x, Quaternion[] kept, Lot lot) {
        int k = lot.upTo(7);
        int other = lot.upTo(7);
        int to = lot.upTo(7);
        int m = lot.upTo(2) == 0 ? lot.between(-1000, 1000) : lot.between(-4, 4);
        int n = lot.upTo(2) == 0 ? lot.between(1, 1000) : lot.between(1, 6);
        Fraction norm = kept[k].norm();
        switch (lot.upTo(5)) {
            case 0:
                keep("times", x.times(k, other, to), x, kept, to, kept[k].times(kept[other]));
                break;
            case 1:
                keep("plus", x.plus(k, other, m, to), x, kept, to, kept[k].plus(kept[other].scaled(Fraction.of(m))));
                break;
            case 2:
                keep("mirror", x.mirror(k, to), x, kept, to, kept[k].mirror());
                break;
            case 3:
                if (norm.isZero()) {
                    check.due("inverse", x.inverse(k, to), -2);
                } else {
                    keep("inverse", x.inverse(k, to), x, kept, to, kept[k].mirror().scaled(Fraction.ONE.by(norm)));
                }
                break;
            case 4:
                keep("over", x.over(k, n), x, kept, k, kept[k].scaled(Fraction.of(1, n)));
                break;
            default:
                check.due("norm", x.norm(k, 0), norm.above.longValueExact());
                check.due("norm", x.norm(k, 1), norm.below.longValueExact());
                check.due("trace", x.trace(k, 0), kept[k].trace().above.longValueExact());
                check.due("trace", x.trace(k, 1), kept[k].trace().below.longValueExact());
        }
    }

    private static void keep(String call, int got, MiddleAlgebras x, Quaternion[] kept, int to, Quaternion made) {
        BigInteger below = BigInteger.ONE;
        for (Fraction one : made.numbers) {
            below = below.multiply(one.below).divide(below.gcd(one.below));
        }
        BigInteger most = below;
        for (Fraction one : made.numbers) {
            most = most.max(one.above.abs().multiply(below).divide(one.below));
        }
        boolean fits = most.compareTo(BigInteger.valueOf(MILLION)) <= 0;
        check.due(call, got, fits ? 0 : -3);
        if (fits) {
            kept[to] = made;
        }
        long[] five = kept[to].five();
        is(call, x, to, 0, five);
    }

    private static void is(String call, MiddleAlgebras x, int k, int algebra, long... five) {
        for (int what = 0; what < 5; what++) {
            check.due(call + ": element(" + k + ", " + what + ")", x.element(k, what), five[what]);
        }
        check.due(call + ": element(" + k + ", 5)", x.element(k, 5), algebra);
    }
}
