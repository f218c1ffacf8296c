import java.math.BigInteger;
import java.util.ArrayList;
import java.util.List;

/** All whole sums of some quaternions, four of them independent, by plain elimination. */
final class Span {
    final int a;
    final int b;
    final BigInteger below;
    final BigInteger[][] rows;

    private Span(int a, int b, BigInteger below, BigInteger[][] rows) {
        this.a = a;
        this.b = b;
        this.below = below;
        this.rows = rows;
    }

    static Span plain(int a, int b) {
        List<Quaternion> units = new ArrayList<>();
        for (int t = 0; t < 4; t++) {
            units.add(Quaternion.unit(a, b, t));
        }
        return of(units);
    }

    static Span of(List<Quaternion> makers) {
        BigInteger below = BigInteger.ONE;
        for (Quaternion one : makers) {
            for (Fraction number : one.numbers) {
                below = below.multiply(number.below).divide(below.gcd(number.below));
            }
        }
        List<BigInteger[]> left = new ArrayList<>();
        for (Quaternion one : makers) {
            BigInteger[] row = new BigInteger[4];
            for (int t = 0; t < 4; t++) {
                row[t] = one.numbers[t].above.multiply(below).divide(one.numbers[t].below);
            }
            left.add(row);
        }
        BigInteger[][] rows = new BigInteger[4][];
        for (int column = 0; column < 4; column++) {
            rows[column] = takePivot(left, column);
        }
        reduce(rows);
        Quaternion any = makers.get(0);
        return new Span(any.a, any.b, below, rows);
    }

    private static BigInteger[] takePivot(List<BigInteger[]> left, int column) {
        while (true) {
            BigInteger[] least = null;
            for (BigInteger[] row : left) {
                if (row[column].signum() != 0 && (least == null || row[column].abs().compareTo(least[column].abs()) < 0)) {
                    least = row;
                }
            }
            boolean alone = true;
            for (BigInteger[] row : left) {
                if (row != least && row[column].signum() != 0) {
                    subtract(row, least, row[column].divide(least[column]));
                    alone = alone && row[column].signum() == 0;
                }
            }
            if (alone) {
                left.remove(least);
                if (least[column].signum() < 0) {
                    for (int t = 0; t < 4; t++) {
                        least[t] = least[t].negate();
                    }
                }
                return least;
            }
        }
    }

    private static void reduce(BigInteger[][] rows) {
        for (int column = 1; column < 4; column++) {
            for (int row = column - 1; row >= 0; row--) {
                BigInteger rest = rows[row][column].mod(rows[column][column]);
                subtract(rows[row], rows[column], rows[row][column].subtract(rest).divide(rows[column][column]));
            }
        }
    }

    private static void subtract(BigInteger[] row, BigInteger[] other, BigInteger often) {
        for (int t = 0; t < 4; t++) {
            row[t] = row[t].subtract(other[t].multiply(often));
        }
    }

    Quaternion row(int r) {
        Fraction[] numbers = new Fraction[4];
        for (int t = 0; t < 4; t++) {
            numbers[t] = new Fraction(rows[r][t], below);
        }
        return new Quaternion(a, b, numbers);
    }

    List<Quaternion> basis() {
        List<Quaternion> made = new ArrayList<>();
        for (int r = 0; r < 4; r++) {
            made.add(row(r));
        }
        return made;
    }

    boolean is(Span other) {
        if (!below.equals(other.below)) {
            return false;
        }
        for (int r = 0; r < 4; r++) {
            for (int t = 0; t < 4; t++) {
                if (!rows[r][t].equals(other.rows[r][t])) {
                    return false;
                }
            }
        }
        return true;
    }

    /** How often each row comes in it, as fractions. */
    Fraction[] express(Quaternion one) {
        Fraction[] often = new Fraction[4];
        Quaternion left = one;
        for (int r = 0; r < 4; r++) {
            often[r] = left.numbers[r].by(row(r).numbers[r]);
            left = left.plus(row(r).scaled(often[r].minus()));
        }
        return often;
    }

    boolean has(Quaternion one) {
        for (Fraction often : express(one)) {
            if (!often.isWhole()) {
                return false;
            }
        }
        return true;
    }

    /** How much of the room of four numbers one lot takes. */
    Fraction volume() {
        Fraction made = Fraction.ONE;
        for (int r = 0; r < 4; r++) {
            made = made.times(new Fraction(rows[r][r], below));
        }
        return made;
    }

    /** The root of the determinant of the TRACES of products, by elimination. */
    Fraction disc() {
        Fraction[][] m = new Fraction[4][4];
        for (int r = 0; r < 4; r++) {
            for (int s = 0; s < 4; s++) {
                m[r][s] = row(r).times(row(s)).trace();
            }
        }
        Fraction made = Fraction.ONE;
        for (int r = 0; r < 4; r++) {
            int from = r;
            while (m[from][r].isZero()) {
                from++;
            }
            Fraction[] pivot = m[from];
            m[from] = m[r];
            m[r] = pivot;
            made = made.times(pivot[r]);
            for (int s = r + 1; s < 4; s++) {
                Fraction often = m[s][r].by(pivot[r]).minus();
                for (int t = r; t < 4; t++) {
                    m[s][t] = m[s][t].plus(pivot[t].times(often));
                }
            }
        }
        return new Fraction(made.above.abs().sqrt(), made.below.sqrt());
    }

    boolean isIntegral() {
        for (int r = 0; r < 4; r++) {
            for (int s = 0; s <= r; s++) {
                Quaternion one = s == r ? row(r) : row(r).plus(row(s));
                if (!one.isIntegral()) {
                    return false;
                }
            }
        }
        return true;
    }

    /** The least set with this one and it, and all products; null if not all TRACES and NORMS in it are whole. */
    Span closedWith(Quaternion one) {
        List<Quaternion> makers = basis();
        makers.add(one);
        Span set = of(makers);
        while (set.isIntegral()) {
            List<Quaternion> more = set.basis();
            for (Quaternion x : set.basis()) {
                for (Quaternion y : set.basis()) {
                    more.add(x.times(y));
                }
            }
            Span next = of(more);
            if (next.is(set)) {
                return set;
            }
            set = next;
        }
        return null;
    }

    /** As section 4 of the document tells; null if nothing makes it greater. */
    Span enlarged(int p) {
        for (int c0 = 0; c0 < p; c0++) {
            for (int c1 = 0; c1 < p; c1++) {
                for (int c2 = 0; c2 < p; c2++) {
                    for (int c3 = c0 + c1 + c2 == 0 ? 1 : 0; c3 < p; c3++) {
                        if (!mayBeIntegral(p, c0, c1, c2, c3)) {
                            continue;
                        }
                        Quaternion sum = row(0).scaled(Fraction.of(c0, p)).plus(row(1).scaled(Fraction.of(c1, p)))
                                .plus(row(2).scaled(Fraction.of(c2, p))).plus(row(3).scaled(Fraction.of(c3, p)));
                        Span greater = closedWith(sum);
                        if (greater != null) {
                            return greater;
                        }
                    }
                }
            }
        }
        return null;
    }

    /** Quick: only whether its own TRACE and NORM are whole. */
    private boolean mayBeIntegral(int p, int... c) {
        long[] sum = new long[4];
        long over = below.longValueExact() * p;
        for (int t = 0; t < 4; t++) {
            for (int r = 0; r <= t; r++) {
                sum[t] += c[r] * rows[r][t].longValue();
            }
        }
        if (2 * sum[0] % over != 0) {
            return false;
        }
        long form = sum[0] * sum[0] - a * sum[1] * sum[1] - b * sum[2] * sum[2] + (long) a * b * sum[3] * sum[3];
        return form % (over * over) == 0;
    }

    /** The LEFT IDEAL of this ORDER and its makers. */
    Span leftIdeal(List<Quaternion> makers) {
        List<Quaternion> all = new ArrayList<>();
        for (Quaternion row : basis()) {
            for (Quaternion maker : makers) {
                all.add(row.times(maker));
            }
        }
        return of(all);
    }
}
