/** Section 4 up to TO ENLARGE, promises 21 to 28: a method for each sentence that names a boundary; the sentence above it. */
public final class OrdersBoundsTest {
    private static final Check check = new Check("OrdersBoundsTest");
    private static final int[] OTHERS = {-1, -2, 5, 6, Integer.MAX_VALUE, Integer.MIN_VALUE};

    public static void main(String[] args) {
        atFirst();
        rowsAreTheOneWay();
        discLeastAndGreatest();
        discOfOthers();
        dueLeavesOutNought();
        row();
        rowOfWhatIsBelow();
        table();
        tableIsWhole();
        enlargePrimes();
        enlargeTillDue();
        enlargeOnePrimeAlone();
        enlargeTakesTheFirst();
        enlargeLots();
        enlargeOfOthers();
        greatestTillDue();
        greatestAtTheLeast();
        greatestOfOthers();
        plain();
        isIn();
        isInOfOthers();
        check.end();
    }

    // "ORDER of a quaternion ALGEBRA: at first all whole sums of 1, i, j, k."
    private static void atFirst() {
        int[][] sides = {{1, 1}, {-1, -1}, {59, -59}, {-59, 58}, {5, -3}};
        for (int[] side : sides) {
            MiddleAlgebras x = Check.quaternion(side[0], side[1]);
            rows("at first", x, 0, 1, 1, 0, 0, 0, 0, 1, 0, 0, 0, 0, 1, 0, 0, 0, 0, 1);
            check.due("disc at first", x.disc(0), 4 * Math.abs(side[0] * side[1]));
        }
    }

    // "row r has 0 ahead of its number r, which is above 0; numbers above that one in its column are 0 or more, less than it",
    // "over one below them, the least that can be".
    private static void rowsAreTheOneWay() {
        int[] primes = {2, 3, 5, 7, 11, 13, 17, 19, 23, 29, 31, 37, 41, 43, 47, 53, 59};
        int[][] sides = {{-1, -1}, {1, 1}, {42, -42}, {-42, -42}, {58, 58}, {-58, -59}, {59, -59}, {30, -15}, {21, 15}, {-19, -15}, {-7, -5},
            {10, 6}, {-3, 57}, {2, 2}, {-2, 2}, {5, 5}, {-39, 26}};
        for (int[] side : sides) {
            MiddleAlgebras x = Check.quaternion(side[0], side[1]);
            oneWay(x, side);
            for (int p : primes) {
                for (int steps = 0; steps < 9 && x.enlarge(0, p) > 0; steps++) {
                    oneWay(x, side);
                }
            }
        }
    }

    private static void oneWay(MiddleAlgebras x, int[] side) {
        String of = "rows of " + side[0] + ", " + side[1];
        long common = x.row(0, 4, 0);
        check.due(of + ": below", common > 0, true);
        for (int r = 0; r < 4; r++) {
            for (int c = 0; c < 4; c++) {
                int n = x.row(0, r, c);
                common = gcd(common, n);
                check.due(of + ": row " + r + ", " + c, c < r ? n == 0 : c == r ? n > 0 : n >= 0 && n < x.row(0, c, c), true);
            }
        }
        check.due(of + ": the least below", common, 1);
    }

    private static long gcd(long a, long b) {
        return b == 0 ? a : gcd(b, a % b);
    }

    // "the root of the determinant of m (without its sign): a whole number".
    private static void discLeastAndGreatest() {
        int[][] sides = {{1, 1, 4}, {1, -1, 4}, {-1, -1, 4}, {59, 59, 13924}, {-59, -59, 13924}, {59, -59, 13924}, {2, 1, 8}, {-1, 3, 12}};
        for (int[] side : sides) {
            check.due("disc of " + side[0] + ", " + side[1], Check.quaternion(side[0], side[1]).disc(0), side[2]);
        }
        MiddleAlgebras x = Check.quaternion(1, 1);
        x.greatest(0);
        check.due("the least disc", x.disc(0), 1);
        MiddleAlgebras y = Check.quaternion(-58, -59);
        y.greatest(0);
        check.due("disc is due", y.disc(0), y.due(0));
    }

    // "DISC; NONE: no quaternion ALGEBRA." "DUE; NONE likewise."
    private static void discOfOthers() {
        for (int k : Sample.NO_QUATERNIONS) {
            check.refused("disc(" + k + ")", -1, x -> x.disc(k));
            check.refused("due(" + k + ")", -1, x -> x.due(k));
        }
        check.due("disc(1)", Sample.made().disc(1), 28);
        check.due("due(1)", Sample.made().due(1), 1);
    }

    // "all primes with a LOCAL INDEX that is not 0, multiplied (1: none)": 0 is a PLACE, yet no prime.
    private static void dueLeavesOutNought() {
        int[][] sides = {{1, 1, 1}, {1, -1, 1}, {-1, -1, 2}, {-1, -3, 3}, {-1, -7, 7}, {3, 5, 15}, {-2, -5, 5}, {-3, -10, 30}, {-59, -1, 59},
            {2, 59, 118}, {7, 2, 1}, {6, 5, 6}};
        for (int[] side : sides) {
            MiddleAlgebras x = Check.quaternion(side[0], side[1]);
            check.due("due of " + side[0] + ", " + side[1], x.due(0), side[2]);
            x.greatest(0);
            check.due("due stays", x.due(0), side[2]);
        }
    }

    // "Number c (0 to 3) of ROW r (0 to 3); ..; NoSuchElementException: others."
    private static void row() {
        MiddleAlgebras x = Sample.made();
        rows("h", x, Sample.H, 2, 1, 1, 1, 1, 0, 2, 0, 0, 0, 0, 2, 0, 0, 0, 0, 2);
        for (int n : OTHERS) {
            for (int c = 0; c < 4; c++) {
                int column = c;
                check.refusedByThrow("row(0, " + n + ", " + c + ")", y -> y.row(Sample.H, n, column));
                check.refusedByThrow("row(0, " + c + ", " + n + ")", y -> y.row(Sample.H, column, n));
            }
            check.refusedByThrow("row(0, " + n + ", " + n + ")", y -> y.row(Sample.H, n, n));
        }
        for (int c = 0; c < 4; c++) {
            int r = c;
            check.refusedByThrow("row(0, " + r + ", 4)", y -> y.row(Sample.H, r, 4));
        }
        for (int k : Sample.NO_QUATERNIONS) {
            for (int r = 0; r <= 4; r++) {
                int asked = r;
                check.refusedByThrow("row(" + k + ", " + r + ", 0)", y -> y.row(k, asked, 0));
            }
        }
    }

    // "what is below them (r 4, any c)".
    private static void rowOfWhatIsBelow() {
        MiddleAlgebras x = Sample.made();
        for (int c : new int[] {0, 1, 3, 4, 5, 9, -1, 1000, Integer.MAX_VALUE, Integer.MIN_VALUE}) {
            check.due("row(0, 4, " + c + ")", x.row(Sample.H, 4, c), 2);
        }
        x.plain(Sample.H);
        check.due("row(0, 4, -1)", x.row(Sample.H, 4, -1), 1);
    }

    // "how often ROW t comes in it; NoSuchElementException: others."
    private static void table() {
        for (int n : new int[] {-1, -2, 4, 5, Integer.MAX_VALUE, Integer.MIN_VALUE}) {
            for (int r = 0; r < 4; r++) {
                int one = r;
                check.refusedByThrow("table(0, " + n + ", " + r + ", 0)", x -> x.table(Sample.H, n, one, 0));
                check.refusedByThrow("table(0, " + r + ", " + n + ", 3)", x -> x.table(Sample.H, one, n, 3));
                check.refusedByThrow("table(0, 0, " + r + ", " + n + ")", x -> x.table(Sample.H, 0, one, n));
            }
        }
        for (int k : Sample.NO_QUATERNIONS) {
            check.refusedByThrow("table(" + k + ", 0, 0, 0)", x -> x.table(k, 0, 0, 0));
            check.refusedByThrow("table(" + k + ", 3, 3, 3)", x -> x.table(k, 3, 3, 3));
        }
        MiddleAlgebras x = Check.quaternion(59, -59);
        check.due("k times k is - A * B", x.table(0, 3, 3, 0), 3481);
        check.due("k times k has no k", x.table(0, 3, 3, 3), 0);
        check.due("i times i", x.table(0, 1, 1, 0), 59);
        check.due("j times j", x.table(0, 2, 2, 0), -59);
        check.due("j times i", x.table(0, 2, 1, 3), -1);
    }

    // "ROW r times ROW s is a whole sum of ROWS": put together again it is the product, in the greatest ORDERS, too.
    private static void tableIsWhole() {
        int[][] sides = {{-1, -1}, {-59, -58}, {58, 58}, {42, -42}, {59, -59}, {-46, -57}, {21, 15}};
        for (int[] side : sides) {
            MiddleAlgebras x = Check.quaternion(side[0], side[1]);
            x.greatest(0);
            Quaternion[] row = new Quaternion[4];
            for (int r = 0; r < 4; r++) {
                row[r] = Quaternion.of(side[0], side[1], x.row(0, 4, 0), x.row(0, r, 0), x.row(0, r, 1), x.row(0, r, 2), x.row(0, r, 3));
            }
            for (int at = 0; at < 16; at++) {
                Quaternion sum = row[0].scaled(Fraction.ZERO);
                for (int t = 0; t < 4; t++) {
                    sum = sum.plus(row[t].scaled(Fraction.of(x.table(0, at / 4, at % 4, t))));
                }
                check.due("table of " + side[0] + ", " + side[1] + " at " + at, sum.is(row[at / 4].times(row[at % 4])), true);
            }
        }
    }

    // "NONE: no prime (2 to 60)": every number from -70 to 130, and beyond.
    private static void enlargePrimes() {
        for (int p = -70; p <= 130; p++) {
            int asked = p;
            if (p >= 2 && p <= 60 && Check.isPrime(p)) {
                check.due("enlarge(1, " + p + ")", Sample.made().enlarge(Sample.K, p), p == 2 ? 4 : p == 7 ? 7 : 0);
                check.refused("enlarge(0, " + p + ")", 0, x -> x.enlarge(Sample.H, asked));
            } else {
                check.refused("enlarge(1, " + p + ")", -1, x -> x.enlarge(Sample.K, asked));
            }
        }
        for (int p : new int[] {59999, 65537 + 2, Integer.MAX_VALUE, Integer.MIN_VALUE, Integer.MIN_VALUE + 2}) {
            check.refused("enlarge(1, " + p + ")", -1, x -> x.enlarge(Sample.K, p));
        }
        // 59 is the greatest of them.
        check.due("enlarge(0, 59)", Check.quaternion(59, 3).enlarge(0, 59), 59);
    }

    // "0: it can't be (DISC has no more of p than DUE)": both have one of p, none, and DISC one more.
    private static void enlargeTillDue() {
        MiddleAlgebras x = Check.quaternion(-1, -1);
        check.due("4 and 2 at 2", x.enlarge(0, 2), 2);
        check.due("2 and 2 at 2", x.enlarge(0, 2), 0);
        check.due("none and none at 3", x.enlarge(0, 3), 0);
        MiddleAlgebras y = Check.quaternion(-1, -3);
        check.due("12 and 3 at 3", y.enlarge(0, 3), 0);
        check.due("disc", y.disc(0), 12);
        check.due("due", y.due(0), 3);
        check.due("12 and 3 at 2", y.enlarge(0, 2) > 0, true);
        MiddleAlgebras z = Check.quaternion(3, 3);
        check.due("due of 3, 3", z.due(0), 6);
        check.due("9 in disc, 3 in due", z.enlarge(0, 3), 3);
        check.due("3 in disc, 3 in due", z.enlarge(0, 3), 0);
        MiddleAlgebras w = Check.quaternion(3, -3);
        check.due("due of 3, -3", w.due(0), 1);
        check.due("9 in disc, none in due", w.enlarge(0, 3), 3);
        check.due("3 in disc, none in due", w.enlarge(0, 3), 3);
        check.due("none in both", w.enlarge(0, 3), 0);
    }

    private static void enlargeOnePrimeAlone() {
        MiddleAlgebras x = Check.quaternion(42, -42);
        int disc = x.disc(0);
        for (int p : new int[] {7, 3, 2, 7, 3, 2, 2, 2, 7, 2, 5, 59}) {
            int lots = x.enlarge(0, p);
            check.due("42, -42 at " + p, x.disc(0), lots == 0 ? disc : disc / lots);
            disc = x.disc(0);
            for (int left = lots; left > 1; left /= p) {
                check.due("lots at " + p, left % p, 0);
            }
        }
        check.due("greatest then", x.greatest(0), 0);
    }

    // "going through c0, c1, c2, c3 from 0 to p - 1 each, not all 0, the last one quickest: .. the first for which ..".
    private static void enlargeTakesTheFirst() {
        MiddleAlgebras x = Check.quaternion(-1, -1);
        x.enlarge(0, 2);
        rows("1, 1, 1, 1 by 2", x, 0, 2, 1, 1, 1, 1, 0, 2, 0, 0, 0, 0, 2, 0, 0, 0, 0, 2);
        // k / 2 has the NORM 4 / 4, and k / 5 the NORM 25 / 25: the very first.
        MiddleAlgebras y = Check.quaternion(2, 2);
        y.enlarge(0, 2);
        rows("0, 0, 0, 1 by 2", y, 0, 2, 2, 0, 0, 0, 0, 2, 0, 0, 0, 0, 2, 0, 0, 0, 0, 1);
        MiddleAlgebras z = Check.quaternion(5, 5);
        z.enlarge(0, 5);
        rows("0, 0, 0, 1 by 5", z, 0, 5, 5, 0, 0, 0, 0, 5, 0, 0, 0, 0, 5, 0, 0, 0, 0, 1);
        // j, k and j + k by 2 have the NORMS 3 / 4, 3 / 4, 6 / 4, i by 2 has 1 / 4; i + k by 2 has 1, and brings 1 + j by 2.
        MiddleAlgebras w = Check.quaternion(-1, -3);
        check.due("four lots at once", w.enlarge(0, 2), 4);
        rows("0, 1, 0, 1 by 2", w, 0, 2, 1, 0, 1, 0, 0, 1, 0, 1, 0, 0, 2, 0, 0, 0, 0, 2);
    }

    // "into how many lots the new ORDER falls by the former one": by the rows, and by DISC.
    private static void enlargeLots() {
        int[][] sides = {{-1, -1, 2}, {1, 1, 2}, {2, 2, 2}, {58, 58, 2}, {58, 58, 29}, {59, -59, 59}, {-42, -42, 3}, {-42, -42, 7}, {5, 1, 5}};
        for (int[] side : sides) {
            MiddleAlgebras x = Check.quaternion(side[0], side[1]);
            for (int steps = 0; steps < 8; steps++) {
                Fraction former = volume(x);
                int disc = x.disc(0);
                int lots = x.enlarge(0, side[2]);
                if (lots > 0) {
                    check.due("lots by the rows", former.by(volume(x)).is(lots, 1), true);
                    check.due("lots by disc", lots * x.disc(0), disc);
                    check.due("more than one", lots > 1, true);
                }
            }
        }
    }

    private static Fraction volume(MiddleAlgebras x) {
        Fraction made = Fraction.ONE;
        for (int r = 0; r < 4; r++) {
            made = made.times(Fraction.of(x.row(0, r, r), x.row(0, 4, 0)));
        }
        return made;
    }

    private static void enlargeOfOthers() {
        for (int k : Sample.NO_QUATERNIONS) {
            for (int p : new int[] {2, 7, 59, 0, 4, 61}) {
                check.refused("enlarge(" + k + ", " + p + ")", -1, x -> x.enlarge(k, p));
            }
        }
    }

    // "again and again, till it is GREATEST: how many times": none if it is; one to seven.
    private static void greatestTillDue() {
        int[][] sides = {{-1, -1, 1}, {59, 39, 1}, {59, 59, 2}, {59, 58, 3}, {59, 46, 4}, {58, 58, 5}, {58, 42, 6}, {42, -42, 7}};
        for (int[] side : sides) {
            MiddleAlgebras x = Check.quaternion(side[0], side[1]);
            check.due("greatest of " + side[0] + ", " + side[1], x.greatest(0), side[2]);
            check.due("disc", x.disc(0), x.due(0));
            check.due("greatest once more", x.greatest(0), 0);
            for (int p = 2; p < 60; p++) {
                check.due("no prime is left: " + p, x.enlarge(0, p), Check.isPrime(p) ? 0 : -1);
            }
        }
        MiddleAlgebras y = Check.quaternion(42, -42);
        y.enlarge(0, 7);
        y.enlarge(0, 2);
        check.due("those that are left", y.greatest(0), 5);
        check.refused("greatest(0)", 0, x -> x.greatest(Sample.H));
    }

    // "It is ENLARGED at the least prime at which it can be".
    private static void greatestAtTheLeast() {
        int[][] sides = {{42, -42}, {58, 42}, {-58, -59}, {30, -15}, {-39, 26}, {-55, 33}};
        for (int[] side : sides) {
            MiddleAlgebras x = Check.quaternion(side[0], side[1]);
            MiddleAlgebras y = Check.quaternion(side[0], side[1]);
            int steps = 0;
            for (int p = 2; p < 60; p++) {
                while (y.enlarge(0, p) > 0) {
                    steps++;
                }
            }
            check.due("steps of " + side[0] + ", " + side[1], x.greatest(0), steps);
            for (int at = 0; at < 17; at++) {
                check.due("rows of " + side[0] + ", " + side[1], x.row(0, at / 4, at % 4), y.row(0, at / 4, at % 4));
            }
        }
    }

    private static void greatestOfOthers() {
        for (int k : Sample.NO_QUATERNIONS) {
            check.refused("greatest(" + k + ")", -1, x -> x.greatest(k));
        }
    }

    // "The ORDER is as at first; false: no quaternion ALGEBRA."
    private static void plain() {
        for (int k : Sample.NO_QUATERNIONS) {
            check.refused("plain(" + k + ")", 0, x -> x.plain(k) ? 1 : 0);
        }
        MiddleAlgebras x = Sample.made();
        check.due("plain", x.plain(Sample.H), true);
        rows("plain", x, Sample.H, 1, 1, 0, 0, 0, 0, 1, 0, 0, 0, 0, 1, 0, 0, 0, 0, 1);
        check.due("disc", x.disc(Sample.H), 4);
        check.due("the other one's stays", x.disc(Sample.K), 28);
        check.due("elements stay", x.count(1), 191);
        check.due("half is not in it", x.isIn(Sample.HALF), 0);
        check.due("plain once more", x.plain(Sample.H), true);
        check.due("greatest anew", x.greatest(Sample.H), 1);
        check.due("half is in it", x.isIn(Sample.HALF), 1);
    }

    // "1 an ELEMENT is in the ORDER of its ALGEBRA, 0 not".
    private static void isIn() {
        MiddleAlgebras x = Check.quaternion(-1, -1);
        // In Hurwitz's ORDER: all odd over 2, or all even.
        x.greatest(0);
        for (int which = 0; which < 16; which++) {
            x.tell(0, 0, which & 1, which >> 1 & 1, which >> 2 & 1, which >> 3 & 1);
            check.due("whole no. " + which, x.isIn(0), 1);
            x.over(0, 2);
            check.due("half no. " + which, x.isIn(0), which == 0 || which == 15 ? 1 : 0);
            x.over(0, 2);
            check.due("quarter no. " + which, x.isIn(0), which == 0 ? 1 : 0);
        }
        x.tell(1, 0, 1000000, -1000000, 1000000, -1000000);
        check.due("great", x.isIn(1), 1);
        x.tell(1, 0, 999999, -999999, 999997, -1);
        x.over(1, 2);
        check.due("great, all odd", x.isIn(1), 1);
        x.tell(1, 0, 999999, -999999, 999997, -2);
        x.over(1, 2);
        check.due("great, one even", x.isIn(1), 0);
        x.tell(2, 0, 1, 0, 0, 0);
        x.over(2, 1000);
        x.over(2, 1000);
        check.due("a millionth", x.isIn(2), 0);
        MiddleAlgebras y = Check.quaternion(-1, -1);
        y.tell(0, 0, 0, 0, 0, 0);
        y.tell(1, 0, 1, 0, 0, 1);
        y.tell(2, 0, 1, 1, 1, 1);
        y.over(2, 2);
        check.due("0", y.isIn(0), 1);
        check.due("whole", y.isIn(1), 1);
        check.due("half, plain", y.isIn(2), 0);
    }

    // "NONE: none kept."
    private static void isInOfOthers() {
        for (int k : Sample.NOT_KEPT) {
            check.refused("isIn(" + k + ")", -1, x -> x.isIn(k));
        }
        int[] due = {1, 1, 1, 0, 1, 0, -1, 1};
        for (int k = 0; k < 8; k++) {
            int asked = k;
            check.refused("isIn(" + k + ")", due[k], x -> x.isIn(asked));
        }
    }

    private static void rows(String call, MiddleAlgebras x, int algebra, long below, long... due) {
        for (int at = 0; at < 16; at++) {
            check.due(call + ": row " + at / 4 + ", " + at % 4, x.row(algebra, at / 4, at % 4), due[at]);
        }
        check.due(call + ": below", x.row(algebra, 4, 0), below);
    }
}
