import java.util.NoSuchElementException;

/** Any call in any state: no exception but a NoSuchElementException where the document names one; the same answers twice. */
public final class WildCallsTest {
    private static final Check check = new Check("WildCallsTest");
    private static final String[] PIECES = {"quaternion ", "cyclic ", "sum ", "a ", "b ", "c ", "-", "+", ";", ";", "7 ", "13 ", "-1 ", "2 ",
        "-59 ", "58 ", "0 ", "60 ", "999 ", "\n", "*", "abcdefghijkl ", "quaternion d -1 -1;", "quaternion e 2 7;", "cyclic f 7 2;",
        "sum g +d-e;", "quaternion h -59 -58;", "quaternion i 53 -53;"};

    public static void main(String[] args) {
        for (int run = 0; run < 600; run++) {
            long first = run(run);
            check.due("run " + run + " once more", run(run), first);
        }
        check.end();
    }

    private static long run(int seed) {
        Lot lot = new Lot(seed);
        MiddleAlgebras x = new MiddleAlgebras();
        long sum = 0;
        for (int call = 0; call < 512; call++) {
            int which = lot.upTo(37);
            try {
                sum = sum * 31 + (which >= 33 ? text(x, lot) : call(x, which, lot));
            } catch (NoSuchElementException e) {
                sum = sum * 31 + 7;
                check.due("throws: call " + which, mayThrow(which), true);
            } catch (RuntimeException e) {
                check.fail("run " + seed + ", call " + which + " threw " + e);
            }
        }
        return sum;
    }

    private static boolean mayThrow(int which) {
        return which == 2 || which == 10 || which == 15 || which == 16 || which == 18 || which == 21 || which == 25;
    }

    private static int text(MiddleAlgebras x, Lot lot) {
        StringBuilder made = new StringBuilder();
        for (int left = lot.upTo(8); left >= 0; left--) {
            made.append(PIECES[lot.between(lot.upTo(2) == 0 ? 0 : 22, PIECES.length - 1)]);
        }
        int got = Check.text(x, made.toString());
        int pending = x.count(2);
        check.due("tape is empty, or had no room", pending == 0 || got == MiddleAlgebras.NONE || pending > 500, true);
        return got;
    }

    private static int small(Lot lot) {
        switch (lot.upTo(9)) {
            case 0:
                return lot.any();
            case 1:
                return new int[] {Integer.MAX_VALUE, Integer.MIN_VALUE, -2, -1, 8, 600, 601, 1000000}[lot.upTo(7)];
            case 2:
                return lot.between(-1200, 1200);
            default:
                return lot.between(-1, 8);
        }
    }

    private static long call(MiddleAlgebras x, int which, Lot lot) {
        int k = small(lot);
        int m = small(lot);
        int n = small(lot);
        int o = small(lot);
        switch (which) {
            case 0: return x.feed(k, m, n, o, lot.any());
            case 1: return lot.upTo(3) == 0 ? x.text(k) : 0;
            case 2: return x.algebra(k, m);
            case 3: return x.local(k, m);
            case 4: return x.place(k, m);
            case 5: return x.index(k);
            case 6: return x.alike(k, m);
            case 7: return x.classes();
            case 8: return x.tell(k, m, n, o, small(lot), small(lot)) ? 1 : 0;
            case 9: return x.over(k, m);
            case 10: return x.element(k, m);
            case 11: return x.times(k, m, n);
            case 12: return x.plus(k, m, n, o);
            case 13: return x.mirror(k, m);
            case 14: return x.inverse(k, m);
            case 15: return x.norm(k, m);
            case 16: return x.trace(k, m);
            case 17: return x.solution(k, m);
            case 18: return x.matrix(k, m, n, o);
            case 19: return x.disc(k);
            case 20: return x.due(k);
            case 21: return x.row(k, m, n);
            case 22: return x.enlarge(k, lot.upTo(2) == 0 ? lot.between(-1, 61) : 2);
            case 23: return lot.upTo(3) == 0 ? x.greatest(k) : 0;
            case 24: return lot.upTo(3) == 0 && x.plain(k) ? 1 : 0;
            case 25: return x.table(k, m, n, o);
            case 26: return x.isIn(k);
            case 27: return x.ideal(k, m);
            case 28: return x.isInIdeal(k, m, n);
            case 29: return x.isTwoSided(k, m);
            case 30: return x.many(k, m);
            case 31: return x.count(k);
            default: return x.tell(lot.upTo(7), lot.upTo(2), lot.between(-3, 3), lot.between(-3, 3), 1, 1) ? 1 : 0;
        }
    }
}
