/** The end of section 3, promises 19 and 20: a method for each sentence that names a boundary; the sentence stands above it. */
public final class SplittingBoundsTest {
    private static final Check check = new Check("SplittingBoundsTest");
    private static final int MILLION = 1000000;
    private static final int[] OTHERS = {-1, -2, 3, 4, Integer.MAX_VALUE, Integer.MIN_VALUE};

    public static void main(String[] args) {
        thereIsOneWithinSeven();
        sevenIsReached();
        leastOfThese();
        aIsOne();
        solutionRefused();
        solutionIsNotKept();
        matrixOfEach();
        matrixRefused();
        matrixOfGreatOnes();
        matrixInLowestTerms();
        check.end();
    }

    // "x, y, z, 0 or more, not all 0, y and z 7 at most, x * x = A * y * y + B * z * z (there is one)".
    private static void thereIsOneWithinSeven() {
        int split = 0;
        for (int a = -60; a <= 60; a++) {
            for (int b = -60; b <= 60; b++) {
                if (Check.isSquareFree(a) && Check.isSquareFree(b)) {
                    split += splitWithinSeven(a, b) ? 1 : 0;
                }
            }
        }
        check.due("many of them split", split > 500, true);
    }

    private static boolean splitWithinSeven(int a, int b) {
        MiddleAlgebras m = Check.quaternion(a, b);
        int x = m.solution(0, 0);
        int y = m.solution(0, 1);
        int z = m.solution(0, 2);
        String of = "solution of " + a + ", " + b;
        if (m.index(0) != 1) {
            check.due(of, x == -2 && y == -2 && z == -2, true);
            return false;
        }
        check.due(of + ": 0 or more", x >= 0 && y >= 0 && z >= 0, true);
        check.due(of + ": 7 at most", y <= 7 && z <= 7, true);
        check.due(of + ": not all 0", x + y + z > 0, true);
        check.due(of + ": x * x", x * x, a * y * y + b * z * z);
        return true;
    }

    private static void sevenIsReached() {
        int[][] due = {{13, 39, 26, 7, 1}, {19, -31, 30, 7, 1}, {22, 11, 33, 7, 1}, {29, 23, 38, 7, 1}, {31, 2, 39, 7, 1}, {37, 53, 45, 7, 2},
            {53, 53, 53, 7, 2}, {58, 58, 58, 7, 3}};
        for (int[] one : due) {
            solution(one[0], one[1], one[2], one[3], one[4]);
        }
    }

    // "of these the least z, of these the least y".
    private static void leastOfThese() {
        // Beside these: 9 = 2 * 4 + 1, 0 = 2 * 4 - 2 * 4, 1 = 5 * 0 + 1; 25 = 7 * 1 + 2 * 9 with the same y and a greater z.
        int[][] due = {{2, 1, 1, 0, 1}, {2, -1, 1, 1, 1}, {2, -2, 0, 1, 1}, {5, 1, 1, 0, 1}, {7, 2, 3, 1, 1}, {-1, 1, 1, 0, 1}, {-1, 2, 1, 1, 1},
            {-2, 6, 2, 1, 1}, {3, 1, 1, 0, 1}, {3, -2, 1, 1, 1}, {2, 7, 3, 1, 1}, {10, 6, 4, 1, 1}, {-59, 59, 0, 1, 1}, {59, -59, 0, 1, 1}};
        for (int[] one : due) {
            solution(one[0], one[1], one[2], one[3], one[4]);
        }
    }

    private static void solution(int a, int b, int x, int y, int z) {
        MiddleAlgebras m = Check.quaternion(a, b);
        check.due("x of " + a + ", " + b, m.solution(0, 0), x);
        check.due("y of " + a + ", " + b, m.solution(0, 1), y);
        check.due("z of " + a + ", " + b, m.solution(0, 2), z);
    }

    // "if z is 0 (A is 1)": z is 0 for all B then, and for no other A.
    private static void aIsOne() {
        for (int n = -60; n <= 60; n++) {
            if (Check.isSquareFree(n)) {
                solution(1, n, 1, 1, 0);
                MiddleAlgebras m = Check.quaternion(n, 1);
                check.due("z of " + n + ", 1", m.solution(0, 2), n == 1 ? 0 : 1);
                check.due("y of " + n + ", 1", m.solution(0, 1), n == 1 ? 1 : 0);
            }
        }
    }

    // "what 0: x, 1: y, 2: z; NONE: no quaternion ALGEBRA, others; -2: it does not SPLIT."
    private static void solutionRefused() {
        for (int what = 0; what < 3; what++) {
            int asked = what;
            check.refused("solution(0, " + what + ") of what does not SPLIT", -2, x -> x.solution(Sample.H, asked));
            for (int algebra : Sample.NO_QUATERNIONS) {
                check.refused("solution(" + algebra + ", " + what + ")", -1, x -> x.solution(algebra, asked));
            }
        }
        for (int what : OTHERS) {
            check.refused("solution(0, " + what + ")", -1, x -> x.solution(Sample.H, what));
            check.refused("solution(1, " + what + ")", -1, x -> x.solution(Sample.K, what));
            check.refused("solution(2, " + what + ")", -1, x -> x.solution(Sample.CYCLIC, what));
        }
        // A cyclic one and a sum that SPLIT have none all the same.
        MiddleAlgebras y = Check.of("quaternion h -1 -1;cyclic c 7 1;sum s +h+h;");
        check.due("index", y.index(1), 1);
        check.due("index", y.index(2), 1);
        check.due("solution", y.solution(1, 0), -1);
        check.due("solution", y.solution(2, 0), -1);
    }

    private static void solutionIsNotKept() {
        MiddleAlgebras m = Check.of("quaternion a 58 58;quaternion b 1 5;quaternion c -1 -1;quaternion d 7 2;");
        int[][] due = {{58, 7, 3}, {1, 1, 0}, {-2, -2, -2}, {3, 1, 1}};
        for (int round = 0; round < 3; round++) {
            for (int k = 0; k < 4; k++) {
                for (int what = 0; what < 3; what++) {
                    check.due("solution(" + k + ", " + what + ")", m.solution(k, what), due[k][what]);
                }
            }
        }
    }

    // "1, 0 / 0, -1 for i, 0, B / 1, 0 for j; else with u = x / z, v = y / z: 0, A / 1, 0 for i, u, -A * v / v, -u for j".
    private static void matrixOfEach() {
        MiddleAlgebras m = Check.of("quaternion a 1 -59;quaternion b 1 1;quaternion c 58 58;quaternion d 3 1;quaternion e 59 -59;");
        // Of each: 1, i, j, k; row by row; all over the last number.
        long[][][] due = {
            {{1, 0, 0, 1}, {1, 0, 0, -1}, {0, -59, 1, 0}, {0, -59, -1, 0}, {1}},
            {{1, 0, 0, 1}, {1, 0, 0, -1}, {0, 1, 1, 0}, {0, 1, -1, 0}, {1}},
            {{3, 0, 0, 3}, {0, 174, 3, 0}, {58, -406, 7, -58}, {406, -3364, 58, -406}, {3}},
            {{1, 0, 0, 1}, {0, 3, 1, 0}, {1, 0, 0, -1}, {0, -3, 1, 0}, {1}},
            {{1, 0, 0, 1}, {0, 59, 1, 0}, {0, -59, 1, 0}, {59, 0, 0, -59}, {1}}};
        for (int algebra = 0; algebra < 5; algebra++) {
            for (int t = 0; t < 4; t++) {
                m.tell(t, algebra, t == 0 ? 1 : 0, t == 1 ? 1 : 0, t == 2 ? 1 : 0, t == 3 ? 1 : 0);
                for (int at = 0; at < 4; at++) {
                    Fraction one = Fraction.of(m.matrix(t, at / 2, at % 2, 0), m.matrix(t, at / 2, at % 2, 1));
                    check.due("unit " + t + " of " + algebra + " at " + at, one.is(due[algebra][t][at], due[algebra][4][0]), true);
                }
            }
        }
    }

    // "row, column (0, 1 each), what 0 above, 1 below; NoSuchElementException: none kept, others, its ALGEBRA does not SPLIT."
    private static void matrixRefused() {
        int[] wrong = {-1, -2, 2, 3, Integer.MAX_VALUE, Integer.MIN_VALUE};
        for (int at = 0; at < 8; at++) {
            int row = at / 4;
            int column = at / 2 % 2;
            int what = at % 2;
            String of = ", " + row + ", " + column + ", " + what + ")";
            check.due("matrix(3" + of, Sample.made().matrix(Sample.THIRD, row, column, what) != 99, true);
            check.refusedByThrow("matrix(0" + of + " of what does not SPLIT", x -> x.matrix(Sample.HALF, row, column, what));
            for (int k : Sample.NOT_KEPT) {
                check.refusedByThrow("matrix(" + k + of, x -> x.matrix(k, row, column, what));
            }
            for (int n : wrong) {
                check.refusedByThrow("matrix(3, " + n + ", ..)", x -> x.matrix(Sample.THIRD, n, column, what));
                check.refusedByThrow("matrix(3, " + row + ", " + n + ", ..)", x -> x.matrix(Sample.THIRD, row, n, what));
                check.refusedByThrow("matrix(3, " + row + ", " + column + ", " + n + ")", x -> x.matrix(Sample.THIRD, row, column, n));
            }
        }
    }

    // The greatest numbers that come in do not wrap around.
    private static void matrixOfGreatOnes() {
        MiddleAlgebras m = Check.of("quaternion a 58 58;quaternion b 1 -59;");
        m.tell(0, 0, MILLION, MILLION, MILLION, MILLION);
        // 3 + 58 + 58 * 7 = 467, 58 * (3 - 7 - 58) = -3596, 3 + 7 + 58 = 68, 3 - 58 - 58 * 7 = -461; over 3.
        entries("great", m, 0, new long[] {467L * MILLION, -3596L * MILLION, 68L * MILLION, -461L * MILLION}, new long[] {3, 3, 3, 3});
        m.over(0, 1000);
        m.over(0, 1000);
        m.tell(1, 0, MILLION, -MILLION, -MILLION, MILLION - 1);
        m.over(1, 999);
        m.over(1, 997);
        // All over 999 * 997 * 3.
        long[] n = {MILLION, -MILLION, -MILLION, MILLION - 1};
        long below = 999L * 997 * 3;
        long side = n[2] * 58 + n[3] * 58 * 7;
        long corner = n[2] * 7 + n[3] * 58;
        long[] due = {n[0] * 3 + side, 58 * (n[1] * 3 - corner), n[1] * 3 + corner, n[0] * 3 - side};
        for (int at = 0; at < 4; at++) {
            Fraction one = Fraction.of(m.matrix(1, at / 2, at % 2, 0), m.matrix(1, at / 2, at % 2, 1));
            check.due("great over great at " + at, one.is(Fraction.of(due[at], below)), true);
        }
        m.tell(2, 1, MILLION, MILLION, MILLION, MILLION);
        entries("great, z is 0", m, 2, new long[] {2L * MILLION, -118L * MILLION, 0, 0}, new long[] {1, 1, 1, 1});
    }

    // "FRACTIONS are told in lowest terms, the sign above, 0 as 0 over 1."
    private static void matrixInLowestTerms() {
        MiddleAlgebras m = Check.of("quaternion a 58 58;quaternion b 1 5;");
        m.tell(0, 0, 0, 0, 3, 0);
        entries("3 * j", m, 0, new long[] {58, -406, 7, -58}, new long[] {1, 1, 1, 1});
        m.over(0, 7);
        entries("3 * j over 7", m, 0, new long[] {58, -58, 1, -58}, new long[] {7, 1, 1, 7});
        m.tell(1, 0, 1, 0, 0, 0);
        entries("1", m, 1, new long[] {1, 0, 0, 1}, new long[] {1, 1, 1, 1});
        m.tell(2, 0, 0, 0, 0, 0);
        entries("0", m, 2, new long[] {0, 0, 0, 0}, new long[] {1, 1, 1, 1});
        m.tell(3, 1, -2, 0, 1, 0);
        m.over(3, 10);
        entries("z is 0", m, 3, new long[] {-1, 1, 1, -1}, new long[] {5, 2, 10, 5});
    }

    private static void entries(String of, MiddleAlgebras m, int k, long[] above, long[] below) {
        for (int at = 0; at < 4; at++) {
            check.due(of + " at " + at + ", above", m.matrix(k, at / 2, at % 2, 0), above[at]);
            check.due(of + " at " + at + ", below", m.matrix(k, at / 2, at % 2, 1), below[at]);
        }
    }
}
