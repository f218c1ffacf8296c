/** Promises 21 (disc), 22 (due), 23 (row), 24 (enlarge), 25 (greatest), 26 (plain), 27 (table), 28 (isIn). */
public final class OrdersTest {
    private static final Check check = new Check("OrdersTest");

    public static void main(String[] args) {
        hurwitz();
        dueOfNamed();
        refused();
        enlargeAtEach();
        greatestStepByStep();
        eachOrderItsOwn();
        byTheDefinition();
        isIn();
        check.end();
    }

    private static void hurwitz() {
        MiddleAlgebras x = Check.quaternion(-1, -1);
        rows("plain", x, 0, 1, new long[][] {{1, 0, 0, 0}, {0, 1, 0, 0}, {0, 0, 1, 0}, {0, 0, 0, 1}});
        check.due("disc", x.disc(0), 4);
        check.due("due", x.due(0), 2);
        check.due("enlarge(0, 2)", x.enlarge(0, 2), 2);
        rows("hurwitz", x, 0, 2, new long[][] {{1, 1, 1, 1}, {0, 2, 0, 0}, {0, 0, 2, 0}, {0, 0, 0, 2}});
        check.due("disc", x.disc(0), 2);
        check.due("enlarge(0, 2)", x.enlarge(0, 2), 0);
        check.due("greatest(0)", x.greatest(0), 0);
        // Row 0 is w = (1 + i + j + k) / 2, the others are i, j, k: w * w = w - 1, w * i = -w + i + j, i * w = -w + i + k.
        long[][][] due = {{{-1, 1, 1, 1}, {-1, 1, 1, 0}, {-1, 0, 1, 1}, {-1, 1, 0, 1}},
            {{-1, 1, 0, 1}, {-2, 1, 1, 1}, {0, 0, 0, 1}, {0, 0, -1, 0}}};
        for (int s = 0; s < 4; s++) {
            for (int t = 0; t < 4; t++) {
                check.due("table(0, 0, " + s + ", " + t + ")", x.table(0, 0, s, t), due[0][s][t]);
                check.due("table(0, 1, " + s + ", " + t + ")", x.table(0, 1, s, t), due[1][s][t]);
            }
        }
        check.due("plain", x.plain(0), true);
        check.due("disc", x.disc(0), 4);
        rows("plain again", x, 0, 1, new long[][] {{1, 0, 0, 0}, {0, 1, 0, 0}, {0, 0, 1, 0}, {0, 0, 0, 1}});
        check.due("greatest(0)", x.greatest(0), 1);
        check.due("plain", x.plain(0), true);
        check.due("plain", x.plain(0), true);
    }

    private static void rows(String call, MiddleAlgebras x, int algebra, long below, long[][] due) {
        for (int r = 0; r < 4; r++) {
            for (int c = 0; c < 4; c++) {
                check.due(call + ": row(" + algebra + ", " + r + ", " + c + ")", x.row(algebra, r, c), due[r][c]);
            }
        }
        check.due(call + ": below", x.row(algebra, 4, 0), below);
    }

    private static void dueOfNamed() {
        MiddleAlgebras x = Check.of("quaternion a -1 -1;quaternion b 3 5;quaternion c 1 7;quaternion d -59 -58;cyclic e 7 2;sum f +a;"
                + "quaternion g -2 -5;quaternion h 55 -21;");
        long[] due = {2, 15, 1, 59, -1, -1, 5, 0};
        for (int k = 0; k < 7; k++) {
            if (k != 3) {
                check.due("due(" + k + ")", x.due(k), due[k]);
            }
        }
        long[] disc = {4, 60, 28, 4 * 59 * 58, -1, -1, 40, 4 * 55 * 21};
        for (int k = 0; k < 8; k++) {
            check.due("disc(" + k + ")", x.disc(k), disc[k]);
        }
        for (int k = 0; k < 8; k++) {
            long product = 1;
            for (int p = 2; p < 60; p++) {
                product *= x.local(k, p) > 0 ? p : 1;
            }
            check.due("due(" + k + ")", x.due(k), k == 4 || k == 5 ? -1 : product);
        }
        check.due("due(8)", x.due(8), -1);
        check.due("due(-1)", x.due(-1), -1);
        check.due("disc(8)", x.disc(8), -1);
        check.due("disc(-1)", x.disc(-1), -1);
    }

    private static void refused() {
        MiddleAlgebras x = Check.of("quaternion a -3 -1;cyclic c 7 2;sum s +a;");
        int[] noPrimes = {-2, -1, 0, 1, 4, 6, 9, 15, 49, 57, 60, 61, 67, 59999, Integer.MAX_VALUE, Integer.MIN_VALUE};
        for (int p : noPrimes) {
            check.due("enlarge(0, " + p + ")", x.enlarge(0, p), -1);
        }
        int[] noQuaternions = {1, 2, 3, -1, 8, Integer.MAX_VALUE, Integer.MIN_VALUE};
        for (int k : noQuaternions) {
            check.due("enlarge(" + k + ", 2)", x.enlarge(k, 2), -1);
            check.due("greatest(" + k + ")", x.greatest(k), -1);
            check.due("plain(" + k + ")", x.plain(k), false);
            check.due("disc(" + k + ")", x.disc(k), -1);
            check.due("due(" + k + ")", x.due(k), -1);
            check.none("row(" + k + ", 0, 0)", () -> x.row(k, 0, 0));
            check.none("row(" + k + ", 4, 0)", () -> x.row(k, 4, 0));
            check.none("table(" + k + ", 0, 0, 0)", () -> x.table(k, 0, 0, 0));
        }
        int[] no = {-1, 4, 5, Integer.MAX_VALUE, Integer.MIN_VALUE};
        for (int n : no) {
            check.none("row(0, 0, " + n + ")", () -> x.row(0, 0, n));
            check.none("table(0, " + n + ", 0, 0)", () -> x.table(0, n, 0, 0));
            check.none("table(0, 0, " + n + ", 0)", () -> x.table(0, 0, n, 0));
            check.none("table(0, 0, 0, " + n + ")", () -> x.table(0, 0, 0, n));
            check.due("row(0, 4, " + n + ")", x.row(0, 4, n), 1);
            if (n != 4) {
                check.none("row(0, " + n + ", 0)", () -> x.row(0, n, 0));
            }
        }
        check.due("disc stays", x.disc(0), 12);
    }

    private static void enlargeAtEach() {
        MiddleAlgebras x = Check.quaternion(-59, -58);
        check.due("enlarge(0, 3)", x.enlarge(0, 3), 0);
        check.due("enlarge(0, 59)", x.enlarge(0, 59), x.local(0, 59) == 0 ? 59 : 0);
        check.due("enlarge(0, 59) again", x.enlarge(0, 59), 0);
        check.due("disc", x.disc(0), x.local(0, 59) == 0 ? 4 * 58 : 4 * 58 * 59);
        // 59 is in DISC twice, and in DUE: once it can be enlarged.
        MiddleAlgebras y = Check.quaternion(59, -59);
        check.due("enlarge(0, 59)", y.enlarge(0, 59), 59);
        check.due("enlarge(0, 59) again", y.enlarge(0, 59), y.local(0, 59) == 0 ? 59 : 0);
    }

    private static void greatestStepByStep() {
        Lot lot = new Lot(3);
        for (int run = 0; run < 200; run++) {
            int a = lot.squareFree();
            int b = lot.squareFree();
            MiddleAlgebras x = Check.quaternion(a, b);
            MiddleAlgebras y = Check.quaternion(a, b);
            int steps = 0;
            for (int p = 2; p < 60; p++) {
                while (y.enlarge(0, p) > 0) {
                    steps++;
                }
            }
            check.due("greatest of " + a + ", " + b, x.greatest(0), steps);
            check.due("disc is due of " + a + ", " + b, x.disc(0), x.due(0));
            for (int at = 0; at < 17; at++) {
                check.due("row of " + a + ", " + b, x.row(0, at / 4, at % 4), y.row(0, at / 4, at % 4));
            }
        }
    }

    private static void eachOrderItsOwn() {
        MiddleAlgebras x = Check.of("quaternion a -1 -1;quaternion b -1 -1;quaternion c 5 -11;");
        x.greatest(1);
        check.due("disc(0)", x.disc(0), 4);
        check.due("disc(1)", x.disc(1), 2);
        check.due("disc(2)", x.disc(2), 220);
        x.greatest(2);
        x.plain(1);
        check.due("disc(1)", x.disc(1), 4);
        check.due("disc(2)", x.disc(2), x.due(2));
    }

    /** Each step of some pairs of sides, by fractions and going through all of the document's numbers. */
    private static void byTheDefinition() {
        Lot lot = new Lot(17);
        for (int run = 0; run < 220; run++) {
            int a = lot.squareFree();
            int b = run % 3 == 0 ? Check.isSquareFree(-a) ? -a : 1 : lot.squareFree();
            MiddleAlgebras x = Check.quaternion(a, b);
            Span order = Span.plain(a, b);
            same(x, order);
            for (int at = 0; at < 17; at++) {
                int p = new int[] {59, 53, 47, 43, 41, 37, 31, 29, 23, 19, 17, 13, 11, 7, 5, 3, 2}[at];
                while (howOften(p, x.disc(0)) > howOften(p, x.due(0))) {
                    Span greater = order.enlarged(p);
                    if (greater == null) {
                        check.fail("nothing enlarges " + a + ", " + b + " at " + p);
                        break;
                    }
                    Fraction lots = order.volume().by(greater.volume());
                    check.due("enlarge(0, " + p + ") of " + a + ", " + b, x.enlarge(0, p), lots.above.longValueExact());
                    order = greater;
                    same(x, order);
                }
                check.due("enlarge(0, " + p + ") of " + a + ", " + b, x.enlarge(0, p), 0);
            }
        }
    }

    private static int howOften(int p, long n) {
        int often = 0;
        for (long left = n; left % p == 0; left /= p) {
            often++;
        }
        return often;
    }

    private static void same(MiddleAlgebras x, Span order) {
        String of = " of " + order.a + ", " + order.b;
        check.due("disc" + of, order.disc().is(x.disc(0), 1), true);
        check.due("below" + of, x.row(0, 4, 0), order.below.longValueExact());
        for (int r = 0; r < 4; r++) {
            for (int s = 0; s < 4; s++) {
                check.due("row" + of, x.row(0, r, s), order.rows[r][s].longValueExact());
                Fraction[] often = order.express(order.row(r).times(order.row(s)));
                for (int t = 0; t < 4; t++) {
                    check.due("table" + of, often[t].is(x.table(0, r, s, t), 1), true);
                }
            }
        }
    }

    private static void isIn() {
        MiddleAlgebras x = Check.of("quaternion a -1 -1;quaternion b -1 -1;");
        check.due("isIn of none", x.isIn(0), -1);
        check.due("isIn(-1)", x.isIn(-1), -1);
        check.due("isIn(8)", x.isIn(8), -1);
        x.tell(0, 0, 1, -1, 1, 3);
        x.tell(1, 1, 1, 1, 1, 1);
        check.due("whole", x.isIn(0), 1);
        x.over(0, 2);
        x.over(1, 2);
        check.due("half", x.isIn(0), 0);
        x.greatest(0);
        check.due("half", x.isIn(0), 1);
        check.due("half of the other one", x.isIn(1), 0);
        x.tell(2, 0, 1, 1, 1, 2);
        x.over(2, 2);
        check.due("not all odd", x.isIn(2), 0);
        x.tell(3, 0, 0, 0, 0, 0);
        check.due("0", x.isIn(3), 1);
        Lot lot = new Lot(23);
        for (int run = 0; run < 150; run++) {
            isInMixed(lot);
        }
    }

    private static void isInMixed(Lot lot) {
        int a = lot.squareFree();
        int b = lot.squareFree();
        MiddleAlgebras x = Check.quaternion(a, b);
        x.greatest(0);
        int below = x.row(0, 4, 0);
        java.util.List<Quaternion> makers = new java.util.ArrayList<>();
        for (int r = 0; r < 4; r++) {
            makers.add(Quaternion.of(a, b, below, x.row(0, r, 0), x.row(0, r, 1), x.row(0, r, 2), x.row(0, r, 3)));
        }
        Span order = Span.of(makers);
        for (int often = 0; often < 20; often++) {
            int most = often % 5 == 0 ? 1000000 : 30;
            int[] n = {lot.between(-most, most), lot.between(-most, most), lot.between(-most, most), lot.between(-most, most)};
            x.tell(0, 0, n[0], n[1], n[2], n[3]);
            int over = often % 2 == 0 ? below : 2;
            if (over <= 1000 && x.over(0, over) == 0) {
                boolean due = order.has(Quaternion.of(a, b, over, n[0], n[1], n[2], n[3]));
                check.due("isIn of " + a + ", " + b, x.isIn(0), due ? 1 : 0);
            }
        }
    }
}
