import java.util.ArrayList;
import java.util.List;

/** Promises 29 (ideal), 30 (isInIdeal), 31 (isTwoSided), 32 (many). */
public final class IdealsTest {
    private static final Check check = new Check("IdealsTest");

    public static void main(String[] args) {
        named();
        refused();
        edges();
        byTheDefinition();
        manyOfNamed();
        manyRefused();
        manyByGoingThroughAll();
        check.end();
    }

    private static void named() {
        MiddleAlgebras x = Check.quaternion(-1, -1);
        x.tell(0, 0, 1, 1, 0, 0);
        x.tell(1, 0, 2, 0, 0, 0);
        x.tell(2, 0, 1, 2, 0, 0);
        x.tell(3, 0, 1, 0, 2, 0);
        x.tell(4, 0, 0, 0, 0, 0);
        x.tell(5, 0, 5, 0, 0, 0);
        check.due("ideal of 1 + i", x.ideal(0, -1), 4);
        check.due("ideal of 2", x.ideal(1, -1), 16);
        check.due("ideal of 1 + 2i", x.ideal(2, -1), 25);
        check.due("ideal of 5 and 1 + 2i", x.ideal(5, 2), 25);
        check.due("ideal of 1 + 2i and 1 + 2j", x.ideal(2, 3), 1);
        check.due("ideal of 1 + i and 1 + 2i", x.ideal(0, 2), 1);
        check.due("ideal of 2 and 1 + i", x.ideal(1, 0), 4);
        check.due("ideal of 2 and 0", x.ideal(1, 4), 16);
        check.due("ideal of 2 twice", x.ideal(1, 1), 16);
        check.due("isTwoSided of 1 + i", x.isTwoSided(0, -1), 1);
        check.due("isTwoSided of 1 + 2i", x.isTwoSided(2, -1), 0);
        check.due("isTwoSided of 5 and 1 + 2i", x.isTwoSided(5, 2), 0);
        check.due("isTwoSided of 5", x.isTwoSided(5, -1), 1);
        check.due("isTwoSided of 1 + 2i and 1 + 2j", x.isTwoSided(2, 3), 1);
        check.due("isInIdeal: 2 of 1 + i", x.isInIdeal(0, -1, 1), 1);
        check.due("isInIdeal: 1 + 2i of 1 + i", x.isInIdeal(0, -1, 2), 0);
        check.due("isInIdeal: 0", x.isInIdeal(0, -1, 4), 1);
        check.due("isInIdeal: itself", x.isInIdeal(2, -1, 2), 1);
        // j * (1 + 2i) = j - 2k is in it, (1 + 2i) * j = j + 2k is not: a LEFT one.
        x.tell(6, 0, 0, 0, 1, -2);
        x.tell(7, 0, 0, 0, 1, 2);
        check.due("isInIdeal: from the left", x.isInIdeal(2, -1, 6), 1);
        check.due("isInIdeal: from the right", x.isInIdeal(2, -1, 7), 0);
        x.greatest(0);
        check.due("ideal of 1 + i in the greatest", x.ideal(0, -1), 4);
    }

    private static void refused() {
        MiddleAlgebras x = Check.of("quaternion a -1 -1;quaternion b 1 5;cyclic c 7 2;");
        x.tell(0, 0, 1, 1, 0, 0);
        x.tell(1, 1, 1, 1, 0, 0);
        x.tell(2, 0, 1, 1, 1, 1);
        x.over(2, 2);
        x.tell(3, 0, 0, 0, 0, 0);
        x.tell(4, 1, 2, 0, 0, 0);
        x.tell(5, 0, 1, 101, 0, 0);
        x.tell(6, 0, 1, 0, 0, 1);
        x.over(6, 101);
        long[][] due = {{7, -1, -1}, {0, 7, -1}, {7, 0, -1}, {0, 1, -1}, {-1, -1, -1}, {-1, 0, -1}, {8, -1, -1}, {0, 8, -1}, {0, -2, -1},
            {0, Integer.MIN_VALUE, -1}, {Integer.MAX_VALUE, -1, -1}, {2, -1, -2}, {0, 2, -2}, {2, 0, -2}, {3, 2, -2}, {5, 2, -2},
            {6, -1, -2}, {2, 7, -1}, {2, 1, -1}, {1, -1, -3}, {3, -1, -3}, {3, 0, -3}, {5, -1, -3}, {0, 5, -3}, {4, 1, 4}, {1, 4, -3}};
        for (long[] one : due) {
            int k = (int) one[0];
            int other = (int) one[1];
            String of = "(" + k + ", " + other + ")";
            check.due("ideal" + of, x.ideal(k, other), one[2]);
            if (one[2] < 0) {
                check.due("isTwoSided" + of, x.isTwoSided(k, other), one[2]);
                int asked = k == 1 || k == 4 ? 1 : 0;
                check.due("isInIdeal" + of, x.isInIdeal(k, other, asked), one[2]);
                check.due("isInIdeal, asked not kept" + of, x.isInIdeal(k, other, 7), -1);
                check.due("isInIdeal, asked of another" + of, x.isInIdeal(k, other, 1 - asked), -1);
            }
        }
        int[] asked = {1, 7, -1, 8, Integer.MAX_VALUE, Integer.MIN_VALUE};
        for (int n : asked) {
            check.due("isInIdeal(0, -1, " + n + ")", x.isInIdeal(0, -1, n), -1);
        }
        check.due("isInIdeal of what is not in the ORDER", x.isInIdeal(0, -1, 2), 0);
        check.due("isInIdeal of a great one", x.isInIdeal(0, -1, 5), 1);
    }

    private static void edges() {
        MiddleAlgebras x = Check.quaternion(59, 58);
        x.tell(0, 0, 100, -100, 100, -100);
        long norm = Math.abs(10000L * (1 - 59 - 58 + 59 * 58));
        check.due("100", x.ideal(0, -1), norm * norm);
        for (int at = 0; at < 4; at++) {
            for (int n = -101; n <= 101; n += 202) {
                x.tell(1, 0, at == 0 ? n : 0, at == 1 ? n : 0, at == 2 ? n : 0, at == 3 ? n : 0);
                check.due(n + " at " + at, x.ideal(1, -1), -3);
                check.due(n + " at " + at + " of the second", x.ideal(0, 1), -3);
                check.due(n + " at " + at + " asked", x.isInIdeal(0, -1, 1), 0);
            }
        }
        // Below 106 in the ORDER of 53 and -53: j over i has B / A as its square.
        MiddleAlgebras y = Check.quaternion(53, -53);
        y.greatest(0);
        check.due("below", y.row(0, 4, 0), 106);
        for (int r = 0; r < 4; r++) {
            y.tell(r, 0, y.row(0, r, 0), y.row(0, r, 1), y.row(0, r, 2), y.row(0, r, 3));
            y.over(r, 106);
            int fit = y.norm(r, 0) == 0 || y.element(r, 4) > 100 ? -3 : 0;
            check.due("row " + r + " over " + y.element(r, 4), Math.min(y.ideal(r, -1), 0), fit);
        }
    }

    private static void byTheDefinition() {
        Lot lot = new Lot(31);
        int asked = 0;
        for (int run = 0; run < 400; run++) {
            int a = lot.squareFree();
            int b = lot.squareFree();
            MiddleAlgebras x = Check.quaternion(a, b);
            for (int often = run % 5; often > 0; often--) {
                x.enlarge(0, new int[] {2, 3, 5, 7, 2}[lot.upTo(4)]);
            }
            if (run % 3 == 0) {
                x.greatest(0);
            }
            Span order = orderOf(x, a, b);
            for (int pair = 0; pair < 8; pair++) {
                asked += idealOf(x, order, lot) ? 1 : 0;
            }
        }
        check.due("ideals that were asked for", asked > 1000, true);
    }

    private static Span orderOf(MiddleAlgebras x, int a, int b) {
        List<Quaternion> makers = new ArrayList<>();
        for (int r = 0; r < 4; r++) {
            makers.add(Quaternion.of(a, b, x.row(0, 4, 0), x.row(0, r, 0), x.row(0, r, 1), x.row(0, r, 2), x.row(0, r, 3)));
        }
        return Span.of(makers);
    }

    private static boolean idealOf(MiddleAlgebras x, Span order, Lot lot) {
        Quaternion[] three = new Quaternion[3];
        for (int k = 0; k < 3; k++) {
            three[k] = k == 1 && lot.upTo(3) == 0 ? three[0].times(order.row(lot.upTo(3))) : some(order, lot);
        }
        if (lot.upTo(2) == 0) {
            three[2] = some(order, lot).times(three[0]);
        }
        for (int k = 0; k < 3; k++) {
            if (!tell(x, k, three[k])) {
                return false;
            }
        }
        boolean alone = lot.upTo(2) == 0;
        int other = alone ? -1 : 1;
        String of = " of " + order.a + ", " + order.b;
        if (three[0].norm().isZero() || isGreat(three[0]) || (!alone && isGreat(three[1]))) {
            check.due("ideal" + of, x.ideal(0, other), -3);
            return false;
        }
        List<Quaternion> makers = new ArrayList<>();
        makers.add(three[0]);
        if (!alone) {
            makers.add(three[1]);
        }
        Span ideal = order.leftIdeal(makers);
        check.due("ideal" + of, ideal.volume().by(order.volume()).is(x.ideal(0, other), 1), true);
        check.due("isInIdeal" + of, x.isInIdeal(0, other, 2), ideal.has(three[2]) ? 1 : 0);
        boolean both = true;
        for (Quaternion one : ideal.basis()) {
            for (Quaternion row : order.basis()) {
                both = both && ideal.has(one.times(row));
            }
        }
        check.due("isTwoSided" + of, x.isTwoSided(0, other), both ? 1 : 0);
        return true;
    }

    private static Quaternion some(Span order, Lot lot) {
        Quaternion made = order.row(0).scaled(Fraction.ZERO);
        for (int r = 0; r < 4; r++) {
            made = made.plus(order.row(r).scaled(Fraction.of(lot.between(-4, 4))));
        }
        return made;
    }

    private static boolean tell(MiddleAlgebras x, int k, Quaternion one) {
        long[] five = one.five();
        boolean told = x.tell(k, 0, (int) five[0], (int) five[1], (int) five[2], (int) five[3]);
        return told && five[4] <= 1000 && x.over(k, (int) five[4]) == 0;
    }

    private static boolean isGreat(Quaternion one) {
        for (long n : one.five()) {
            if (Math.abs(n) > 100) {
                return true;
            }
        }
        return false;
    }

    /** Of 1, i, j, k the sums of four squares; of Hurwitz's order 24 times the odd divisors together. */
    private static void manyOfNamed() {
        MiddleAlgebras x = Check.quaternion(-1, -1);
        long[] plain = {1, 8, 24, 32, 24, 48, 96, 64, 24, 104, 144, 96, 96};
        long[] greatest = {1, 24, 24, 96, 24, 144, 96, 192, 24, 312, 144, 288, 96};
        for (int n = 0; n <= 12; n++) {
            check.due("many(0, " + n + ")", x.many(0, n), plain[n]);
        }
        x.greatest(0);
        for (int n = 0; n <= 12; n++) {
            check.due("many(0, " + n + ") of the greatest", x.many(0, n), greatest[n]);
        }
    }

    private static void manyRefused() {
        MiddleAlgebras x = Check.of("quaternion a -1 -1;quaternion b 1 -5;quaternion c -5 1;quaternion d 2 3;cyclic e 7 2;sum f +a;");
        int[] others = {-1, 13, Integer.MAX_VALUE, Integer.MIN_VALUE};
        for (int n : others) {
            check.due("many(0, " + n + ")", x.many(0, n), -1);
        }
        int[] none = {1, 2, 3, 4, 5, 6, -1, 8, Integer.MAX_VALUE, Integer.MIN_VALUE};
        for (int k : none) {
            check.due("many(" + k + ", 1)", x.many(k, 1), -1);
        }
    }

    private static void manyByGoingThroughAll() {
        Lot lot = new Lot(41);
        for (int run = 0; run < 60; run++) {
            int a = -Math.abs(lot.squareFree());
            int b = -Math.abs(lot.squareFree());
            MiddleAlgebras x = Check.quaternion(a, b);
            if (run % 4 != 0) {
                x.greatest(0);
            }
            long[] due = normsOf(orderOf(x, a, b));
            for (int n = 0; n <= 12; n++) {
                check.due("many(0, " + n + ") of " + a + ", " + b, x.many(0, n), due[n]);
            }
        }
    }

    /** Goes through all numbers over what is below the rows whose form is small enough, and asks whether they are in. */
    private static long[] normsOf(Span order) {
        long[] found = new long[13];
        long below = order.below.longValueExact();
        long most = 12 * below * below;
        long[][] rows = new long[4][4];
        for (int at = 0; at < 16; at++) {
            rows[at / 4][at % 4] = order.rows[at / 4][at % 4].longValueExact();
        }
        long first = root(most);
        long second = root(most / -order.a);
        for (long x = -first; x <= first; x++) {
            for (long y = -second; y <= second; y++) {
                goThroughLast(order, rows, found, x, y, most, below);
            }
        }
        return found;
    }

    private static void goThroughLast(Span order, long[][] rows, long[] found, long x, long y, long most, long below) {
        long[] left = {x, y, 0, 0};
        if (!takes(rows, left, 0) || !takes(rows, left, 1)) {
            return;
        }
        // From here the numbers of j and k must be left[2] and left[3] less than whole sums of the last two rows.
        long second = root(most / -order.b);
        long third = root(most / ((long) order.a * order.b));
        for (long z = -second; z <= second; z++) {
            if ((z + left[2]) % rows[2][2] != 0) {
                continue;
            }
            long often = (z + left[2]) / rows[2][2];
            for (long w = -third; w <= third; w++) {
                if ((w + left[3] - often * rows[2][3]) % rows[3][3] == 0) {
                    long form = x * x - order.a * y * y - order.b * z * z + (long) order.a * order.b * w * w;
                    if (form <= most && form % (below * below) == 0) {
                        found[(int) (form / (below * below))]++;
                    }
                }
            }
        }
    }

    /** Takes off the row as often as its number tells; false if that is not whole. */
    private static boolean takes(long[][] rows, long[] left, int r) {
        if (left[r] % rows[r][r] != 0) {
            return false;
        }
        long often = left[r] / rows[r][r];
        for (int t = r; t < 4; t++) {
            left[t] -= often * rows[r][t];
        }
        return true;
    }

    private static long root(long n) {
        return (long) Math.sqrt((double) n);
    }
}
