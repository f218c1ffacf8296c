/** Promises 5 (local), 6 (place), 7 (index), 8 (alike), 9 (classes). */
public final class PlacesTest {
    private static final Check check = new Check("PlacesTest");

    public static void main(String[] args) {
        localOfQuaternions();
        localOfCyclicOnes();
        localOfSums();
        wrongPlaces();
        place();
        index();
        alikeAndClasses();
        check.end();
    }

    /** By the equation itself, x * x = A * y * y + B * z * z, modulo p * p (at 2: modulo 64). */
    private static void localOfQuaternions() {
        for (int a = -60; a <= 60; a++) {
            for (int b = -60; b <= 60; b++) {
                if (!Check.isSquareFree(a) || !Check.isSquareFree(b)) {
                    continue;
                }
                MiddleAlgebras x = Check.quaternion(a, b);
                String of = "(" + a + ", " + b + ")";
                check.due("local at 0 of " + of, x.local(0, 0), a < 0 && b < 0 ? 3 : 0);
                int together = x.local(0, 0);
                for (int p = 2; p < 67; p++) {
                    if (Check.isPrime(p)) {
                        boolean solved = (2 * a * b) % p != 0 || (p == 2 ? hasSolutionAtTwo(a, b) : hasSolution(a, b, p));
                        check.due("local at " + p + " of " + of, x.local(0, p), solved ? 0 : 3);
                        together += x.local(0, p);
                    }
                }
                check.due("together of " + of, together % 6, 0);
            }
        }
    }

    private static boolean hasSolution(int a, int b, int p) {
        int q = p * p;
        boolean[] isSquare = new boolean[q];
        for (int x = 0; x < q; x++) {
            isSquare[x * x % q] = true;
        }
        for (int t = 0; t < q; t++) {
            if (isSquare[Math.floorMod(a + b * (t * t % q), q)] || isSquare[Math.floorMod(a * (t * t % q) + b, q)]) {
                return true;
            }
        }
        return false;
    }

    private static boolean hasSolutionAtTwo(int a, int b) {
        for (int y = 0; y < 64; y++) {
            for (int z = 0; z < 64; z++) {
                for (int x = 0; x < 64; x++) {
                    if ((x | y | z) % 2 == 1 && (x * x - a * y * y - b * z * z) % 64 == 0) {
                        return true;
                    }
                }
            }
        }
        return false;
    }

    private static void localOfCyclicOnes() {
        // The least g whose powers are all: 3, 2, 2, 3, 2, 3.
        int[][] fields = {{7, 3}, {13, 2}, {19, 2}, {31, 3}, {37, 2}, {43, 3}};
        for (int[] field : fields) {
            for (int b = -999; b <= 999; b++) {
                if (b != 0) {
                    checkCyclic(field[0], field[1], b);
                }
            }
        }
        MiddleAlgebras x = Check.of("cyclic c 7 2;cyclic d 7 3;cyclic e 7 -49;cyclic f 7 1;cyclic g 13 997;");
        long[][] due = {{0, 2, 4}, {0, 7, 2}, {1, 3, 2}, {1, 7, 4}, {2, 7, 0}, {3, 7, 0}, {4, 997, 4}, {4, 13, 2}, {0, 0, 0}};
        for (long[] one : due) {
            check.due("local(" + one[0] + ", " + one[1] + ")", x.local((int) one[0], (int) one[1]), one[2]);
        }
    }

    private static void checkCyclic(int q, int g, int b) {
        MiddleAlgebras x = Check.of("cyclic c " + q + " " + b + ";");
        int together = 0;
        int left = Math.abs(b);
        for (int p = 2; p < 1000; p++) {
            int t = 0;
            while (left % p == 0) {
                left /= p;
                t++;
            }
            if (t > 0 && p != q) {
                int k = 0;
                int power = 1;
                while (power != p % q) {
                    power = power * g % q;
                    k++;
                }
                check.due("local at " + p + " of " + q + ", " + b, x.local(0, p), 2 * (t * k % 3));
                together += 2 * (t * k % 3);
            }
        }
        check.due("local at Q of " + q + ", " + b, x.local(0, q), Math.floorMod(-together, 6));
        check.due("local at 0 of " + q + ", " + b, x.local(0, 0), 0);
        check.due("local at 11 or 5 of " + q + ", " + b, b % 11 == 0 || x.local(0, 11) == 0, true);
    }

    private static void localOfSums() {
        MiddleAlgebras x = Check.of("quaternion h -1 -1;cyclic c 7 2;sum s -h+c+c-c;sum t -s-s;sum u -c;sum v +t+t+t;");
        int[] places = {0, 2, 3, 5, 7};
        for (int p : places) {
            int h = x.local(0, p);
            int c = x.local(1, p);
            check.due("s at " + p, x.local(2, p), Math.floorMod(c - h, 6));
            check.due("t at " + p, x.local(3, p), Math.floorMod(2 * h - 2 * c, 6));
            check.due("u at " + p, x.local(4, p), Math.floorMod(-c, 6));
            check.due("v at " + p, x.local(5, p), 0);
        }
        check.due("s at 2", x.local(2, 2), 1);
        check.due("u at 2", x.local(4, 2), 2);
    }

    private static void wrongPlaces() {
        MiddleAlgebras x = Check.of("quaternion h -1 -1;cyclic c 7 2;");
        int[] none = {-1, -2, 1, 4, 9, 49, 3599, 60000, 60013, 59997, Integer.MAX_VALUE, Integer.MIN_VALUE};
        for (int p : none) {
            check.due("local(0, " + p + ")", x.local(0, p), -1);
        }
        check.due("local(0, 59999)", x.local(0, 59999), 0);
        check.due("local(1, 997)", x.local(1, 997), 0);
        check.due("local(2, 2)", x.local(2, 2), -1);
        check.due("local(-1, 2)", x.local(-1, 2), -1);
        check.due("local(8, 2)", x.local(8, 2), -1);
    }

    private static void place() {
        MiddleAlgebras x = Check.of("cyclic c 43 863;quaternion h -1 -1;sum s +h+c;quaternion m 1 1;cyclic d 7 30;");
        long[][] due = {{0, -1, 2}, {0, 0, 43}, {0, 1, 863}, {0, 2, -2}, {1, -1, 2}, {1, 0, 0}, {1, 1, 2}, {1, 2, -2},
            {2, -1, 4}, {2, 0, 0}, {2, 1, 2}, {2, 2, 43}, {2, 3, 863}, {2, 4, -2}, {3, -1, 0}, {3, 0, -2}};
        for (long[] one : due) {
            check.due("place(" + one[0] + ", " + one[1] + ")", x.place((int) one[0], (int) one[1]), one[2]);
        }
        // 3 at power 1, 2 at 2, 5 at 5: 4, 2, 4 sixths, so that 7 has 2.
        long[] places = {2, 3, 5, 7, -2};
        for (int k = 0; k < 5; k++) {
            check.due("place(4, " + k + ")", x.place(4, k), places[k]);
        }
        check.due("place(4, -1)", x.place(4, -1), 4);
        check.due("place(4, -2)", x.place(4, -2), -2);
        check.due("place(4, least)", x.place(4, Integer.MIN_VALUE), -2);
        check.due("place(4, greatest)", x.place(4, Integer.MAX_VALUE), -2);
        check.due("place(5, 0)", x.place(5, 0), -2);
        check.due("place(5, -1)", x.place(5, -1), -2);
        check.due("place(-1, -1)", x.place(-1, -1), -2);
    }

    private static void index() {
        MiddleAlgebras x = Check.of("quaternion h -1 -1;cyclic c 7 2;sum s +h+c;sum t +c+c+c;quaternion m 1 7;sum u -s-s;"
                + "sum v +s+s+s;cyclic e 7 8;");
        long[] due = {2, 3, 6, 1, 1, 3, 2, 1};
        for (int k = 0; k < 8; k++) {
            check.due("index(" + k + ")", x.index(k), due[k]);
        }
        check.due("index(8)", x.index(8), -1);
        check.due("index(-1)", x.index(-1), -1);
        // 3 sixths at some places, 2 or 4 at others: no place has an odd one that is no 3, the INDEX is 6 all the same.
        MiddleAlgebras y = Check.of("quaternion h 3 5;cyclic c 7 2;sum s +h+c;");
        check.due("local(2, 3)", y.local(2, 3), 3);
        check.due("local(2, 2)", y.local(2, 2), 4);
        check.due("index of both", y.index(2), 6);
    }

    private static void alikeAndClasses() {
        MiddleAlgebras x = Check.of("quaternion h -1 -1;quaternion k -1 -2;quaternion l 2 7;sum s +h-k;cyclic c 7 2;"
                + "cyclic d 7 16;sum t -c;quaternion m -1 -3;");
        int[] classOf = {0, 0, 1, 1, 2, 2, 3, 4};
        for (int k = 0; k < 8; k++) {
            for (int other = 0; other < 8; other++) {
                check.due("alike(" + k + ", " + other + ")", x.alike(k, other), classOf[k] == classOf[other] ? 1 : 0);
            }
        }
        check.due("classes()", x.classes(), 5);
        check.due("alike(0, 8)", x.alike(0, 8), -1);
        check.due("alike(8, 0)", x.alike(8, 0), -1);
        check.due("alike(-1, -1)", x.alike(-1, -1), -1);
        Check.text(x, "quaternion h -1 -1;");
        check.due("classes() of one", x.classes(), 1);
        check.due("alike(0, 1)", x.alike(0, 1), -1);
    }
}
