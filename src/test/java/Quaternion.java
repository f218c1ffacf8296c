/** Quaternions over fractions, by the words that i and j make: i to the c times j to the d. */
final class Quaternion {
    final int a;
    final int b;
    final Fraction[] numbers;

    Quaternion(int a, int b, Fraction[] numbers) {
        this.a = a;
        this.b = b;
        this.numbers = numbers;
    }

    static Quaternion of(int a, int b, long below, long... wholes) {
        Fraction[] numbers = new Fraction[4];
        for (int t = 0; t < 4; t++) {
            numbers[t] = Fraction.of(wholes[t], below);
        }
        return new Quaternion(a, b, numbers);
    }

    static Quaternion unit(int a, int b, int t) {
        long[] wholes = new long[4];
        wholes[t] = 1;
        return of(a, b, 1, wholes);
    }

    Quaternion times(Quaternion other) {
        Fraction[] sum = {Fraction.ZERO, Fraction.ZERO, Fraction.ZERO, Fraction.ZERO};
        for (int s = 0; s < 4; s++) {
            for (int t = 0; t < 4; t++) {
                int i = (s & 1) + (t & 1);
                int j = (s >> 1) + (t >> 1);
                long factor = (i == 2 ? a : 1) * (j == 2 ? b : 1) * ((s >> 1) * (t & 1) == 1 ? -1 : 1);
                int to = i % 2 + 2 * (j % 2);
                sum[to] = sum[to].plus(numbers[s].times(other.numbers[t]).times(Fraction.of(factor)));
            }
        }
        return new Quaternion(a, b, sum);
    }

    Quaternion plus(Quaternion other) {
        Fraction[] sum = new Fraction[4];
        for (int t = 0; t < 4; t++) {
            sum[t] = numbers[t].plus(other.numbers[t]);
        }
        return new Quaternion(a, b, sum);
    }

    Quaternion scaled(Fraction by) {
        Fraction[] made = new Fraction[4];
        for (int t = 0; t < 4; t++) {
            made[t] = numbers[t].times(by);
        }
        return new Quaternion(a, b, made);
    }

    Quaternion mirror() {
        return new Quaternion(a, b, new Fraction[] {
            numbers[0], numbers[1].minus(), numbers[2].minus(), numbers[3].minus()});
    }

    Fraction norm() {
        return times(mirror()).numbers[0];
    }

    Fraction trace() {
        return plus(mirror()).numbers[0];
    }

    boolean isIntegral() {
        return norm().isWhole() && trace().isWhole();
    }

    /** The four and what is below them, in lowest terms. */
    long[] five() {
        java.math.BigInteger below = java.math.BigInteger.ONE;
        for (Fraction one : numbers) {
            below = below.multiply(one.below).divide(below.gcd(one.below));
        }
        long[] made = new long[5];
        for (int t = 0; t < 4; t++) {
            made[t] = numbers[t].above.multiply(below).divide(numbers[t].below).longValueExact();
        }
        made[4] = below.longValueExact();
        return made;
    }

    boolean is(Quaternion other) {
        for (int t = 0; t < 4; t++) {
            if (!numbers[t].is(other.numbers[t])) {
                return false;
            }
        }
        return true;
    }
}
