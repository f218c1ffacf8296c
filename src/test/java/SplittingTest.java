/** Promises 19 (solution) and 20 (matrix). */
public final class SplittingTest {
    private static final Check check = new Check("SplittingTest");

    public static void main(String[] args) {
        solutions();
        namedSolutions();
        namedMatrices();
        matrixRefused();
        matricesKeepProducts();
        check.end();
    }

    /** All pairs of sides, by going through z, then y, then x. */
    private static void solutions() {
        for (int a = -60; a <= 60; a++) {
            for (int b = -60; b <= 60; b++) {
                if (!Check.isSquareFree(a) || !Check.isSquareFree(b)) {
                    continue;
                }
                MiddleAlgebras x = Check.quaternion(a, b);
                int[] due = x.index(0) == 1 ? solution(a, b) : new int[] {-2, -2, -2};
                for (int what = 0; what < 3; what++) {
                    check.due("solution of " + a + ", " + b, x.solution(0, what), due[what]);
                }
            }
        }
    }

    private static int[] solution(int a, int b) {
        for (int z = 0; z <= 7; z++) {
            for (int y = 0; y <= 7; y++) {
                for (int x = 0; x * x <= 120 * 49; x++) {
                    if (x + y + z > 0 && x * x == a * y * y + b * z * z) {
                        return new int[] {x, y, z};
                    }
                }
            }
        }
        check.fail("there is no solution of " + a + ", " + b);
        return new int[3];
    }

    private static void namedSolutions() {
        MiddleAlgebras x = Check.of("quaternion h 7 2;quaternion k 1 5;quaternion l 5 1;quaternion m -1 -1;cyclic c 7 8;sum s +h;"
                + "quaternion n 2 -2;");
        long[][] due = {{0, 3, 1, 1}, {1, 1, 1, 0}, {2, 1, 0, 1}, {3, -2, -2, -2}, {4, -1, -1, -1}, {5, -1, -1, -1}, {6, 0, 1, 1},
            {7, -1, -1, -1}, {-1, -1, -1, -1}};
        for (long[] one : due) {
            for (int what = 0; what < 3; what++) {
                check.due("solution(" + one[0] + ", " + what + ")", x.solution((int) one[0], what), one[what + 1]);
            }
            check.due("solution(" + one[0] + ", 3)", x.solution((int) one[0], 3), -1);
            check.due("solution(" + one[0] + ", -1)", x.solution((int) one[0], -1), -1);
        }
    }

    private static void namedMatrices() {
        MiddleAlgebras x = Check.of("quaternion h 1 5;quaternion k 5 1;quaternion l 2 -2;quaternion m -2 6;");
        // z is 0: i, j, k are 1, 0 / 0, -1 and 0, 5 / 1, 0 and 0, 5 / -1, 0.
        units(x, 0, new long[][] {{1, 0, 0, 1}, {1, 0, 0, -1}, {0, 5, 1, 0}, {0, 5, -1, 0}}, 1);
        // u is 1, v is 0.
        units(x, 1, new long[][] {{1, 0, 0, 1}, {0, 5, 1, 0}, {1, 0, 0, -1}, {0, -5, 1, 0}}, 1);
        // u is 0, v is 1.
        units(x, 2, new long[][] {{1, 0, 0, 1}, {0, 2, 1, 0}, {0, -2, 1, 0}, {2, 0, 0, -2}}, 1);
        // 2 * 2 = -2 * 1 + 6 * 1: u is 2, v is 1.
        units(x, 3, new long[][] {{1, 0, 0, 1}, {0, -2, 1, 0}, {2, 2, 1, -2}, {-2, 4, 2, 2}}, 1);
        x.tell(0, 0, 2, 4, 0, 3);
        x.over(0, 6);
        long[][] due = {{1, 1}, {5, 2}, {-1, 2}, {-1, 3}};
        for (int at = 0; at < 4; at++) {
            for (int what = 0; what < 2; what++) {
                check.due("matrix(0, " + at / 2 + ", " + at % 2 + ", " + what + ")", x.matrix(0, at / 2, at % 2, what), due[at][what]);
            }
        }
        x.tell(0, 0, 0, 0, 0, 0);
        check.due("0", x.matrix(0, 1, 1, 0), 0);
        check.due("0 is over 1", x.matrix(0, 1, 1, 1), 1);
    }

    private static void units(MiddleAlgebras x, int algebra, long[][] due, long below) {
        for (int t = 0; t < 4; t++) {
            x.tell(7, algebra, t == 0 ? 1 : 0, t == 1 ? 1 : 0, t == 2 ? 1 : 0, t == 3 ? 1 : 0);
            for (int at = 0; at < 4; at++) {
                String of = "unit " + t + " of " + algebra + " at " + at;
                check.due(of, x.matrix(7, at / 2, at % 2, 0), due[t][at]);
                check.due(of + " below", x.matrix(7, at / 2, at % 2, 1), below);
            }
        }
    }

    private static void matrixRefused() {
        MiddleAlgebras x = Check.of("quaternion h 7 2;quaternion k -1 -1;");
        x.tell(0, 0, 1, 2, 3, 4);
        x.tell(1, 1, 1, 2, 3, 4);
        check.due("matrix(0, 0, 0, 1)", x.matrix(0, 0, 0, 1), 1);
        int[][] others = {{0, 2, 0, 0}, {0, -1, 0, 0}, {0, 0, 2, 0}, {0, 0, -1, 0}, {0, 0, 0, 2}, {0, 0, 0, -1}, {1, 0, 0, 0},
            {2, 0, 0, 0}, {-1, 0, 0, 0}, {8, 0, 0, 0}, {Integer.MAX_VALUE, 1, 1, 1}, {0, Integer.MIN_VALUE, 0, 0}};
        for (int[] n : others) {
            check.none("matrix(" + n[0] + ", " + n[1] + ", " + n[2] + ", " + n[3] + ")", () -> x.matrix(n[0], n[1], n[2], n[3]));
        }
    }

    /** The MATRIX of a product is that of the MATRIXES; its determinant is the NORM, its trace the TRACE. */
    private static void matricesKeepProducts() {
        Lot lot = new Lot(5);
        for (int run = 0; run < 3000; run++) {
            int a = lot.squareFree();
            int b = lot.squareFree();
            MiddleAlgebras x = Check.quaternion(a, b);
            if (x.index(0) != 1) {
                continue;
            }
            int most = run % 10 == 0 ? 1000000 : 20;
            for (int k = 0; k < 2; k++) {
                x.tell(k, 0, lot.between(-most, most), lot.between(-most, most), lot.between(-most, most), lot.between(-most, most));
                x.over(k, lot.between(1, 30));
            }
            Fraction[][] m = matrix(x, 0);
            Fraction[][] n = matrix(x, 1);
            Fraction norm = m[0][0].times(m[1][1]).plus(m[0][1].times(m[1][0]).minus());
            String of = "matrix of " + a + ", " + b;
            check.due(of + ": determinant", norm.is(x.norm(0, 0), x.norm(0, 1)), true);
            check.due(of + ": trace", m[0][0].plus(m[1][1]).is(x.trace(0, 0), x.trace(0, 1)), true);
            if (x.times(0, 1, 2) == 0) {
                Fraction[][] product = matrix(x, 2);
                for (int at = 0; at < 4; at++) {
                    Fraction due = m[at / 2][0].times(n[0][at % 2]).plus(m[at / 2][1].times(n[1][at % 2]));
                    check.due(of + ": product", product[at / 2][at % 2].is(due), true);
                }
            }
        }
    }

    private static Fraction[][] matrix(MiddleAlgebras x, int k) {
        Fraction[][] made = new Fraction[2][2];
        for (int at = 0; at < 4; at++) {
            long above = x.matrix(k, at / 2, at % 2, 0);
            long below = x.matrix(k, at / 2, at % 2, 1);
            made[at / 2][at % 2] = Fraction.of(above, below);
            boolean lowest = below > 0 && made[at / 2][at % 2].below.longValueExact() == below;
            check.due("matrix in lowest terms", lowest, true);
        }
        return made;
    }
}
