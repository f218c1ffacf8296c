/** Section 2, promises 5 to 9: a method for each sentence that names a boundary; the sentence stands above it. */
public final class PlacesBoundsTest {
    private static final Check check = new Check("PlacesBoundsTest");
    private static final String EIGHT_ALIKE = "quaternion a -1 -1;quaternion b -1 -2;quaternion c -2 -1;cyclic d 7 1;sum e +a;sum f -b;"
            + "sum g +a+b+c;sum h -a+d;";

    public static void main(String[] args) {
        placesArePrimes();
        localOfNoAlgebra();
        localAtNought();
        localAtTwo();
        localAtOddPrimes();
        cyclicCountsHowOften();
        cyclicPowers();
        cyclicAtQ();
        leastGenerator();
        allTogether();
        sumsModuloSix();
        placesInOrder();
        mostPlaces();
        placeOfOthers();
        index();
        alike();
        classes();
        earlierTextLeavesNothing();
        check.end();
    }

    // "PLACES are primes, and 0." "NONE: none such (no prime, not 0; above 60000 none is looked at)".
    private static void placesArePrimes() {
        MiddleAlgebras x = null;
        for (int p = -20; p <= 60040; p++) {
            x = p % 400 == 0 || x == null ? Check.of("quaternion h -1 -1;cyclic c 7 2;") : x;
            boolean none = p != 0 && (p > 60000 || !Check.isPrime(p));
            check.due("local(0, " + p + ")", x.local(0, p), none ? -1 : p == 0 || p == 2 ? 3 : 0);
        }
        for (int p : new int[] {60013, 60017, 65537, 999983, Integer.MAX_VALUE, -2, -3, -59999, Integer.MIN_VALUE, Integer.MIN_VALUE + 1}) {
            check.refused("local(0, " + p + ")", -1, y -> y.local(0, p));
            check.refused("local(2, " + p + ")", -1, y -> y.local(2, p));
        }
        check.due("local(0, 59999)", Sample.made().local(0, 59999), 0);
        check.due("local(2, 59999)", Sample.made().local(2, 59999), 0);
        check.due("local(3, 59999)", Sample.made().local(3, 59999), 0);
    }

    // "NONE: .. no such ALGEBRA."
    private static void localOfNoAlgebra() {
        for (int k : Sample.NO_ALGEBRAS) {
            check.refused("local(" + k + ", 0)", -1, x -> x.local(k, 0));
            check.refused("local(" + k + ", 2)", -1, x -> x.local(k, 2));
        }
        check.due("local of the last one", Sample.made().local(3, 0), 3);
    }

    // "at 0: 3 if A and B are below 0".
    private static void localAtNought() {
        int[][] sides = {{1, 1, 0}, {1, -1, 0}, {-1, 1, 0}, {-1, -1, 3}, {59, 59, 0}, {59, -59, 0}, {-59, 59, 0}, {-59, -59, 3}};
        for (int[] side : sides) {
            check.due("at 0 of " + side[0] + ", " + side[1], Check.quaternion(side[0], side[1]).local(0, 0), side[2]);
        }
    }

    // "At 2 likewise with p = 2: ..: 3 if e(u) * e(v) + r * w(v) + s * w(u) is odd."
    private static void localAtTwo() {
        int[][] sides = {{1, 1, 0}, {-1, -1, 3}, {3, 3, 3}, {3, -1, 3}, {1, -1, 0}, {5, -1, 0}, {-3, 3, 0}, {-5, -5, 3}, {2, 1, 0}, {2, 7, 0},
            {2, -1, 0}, {2, 3, 3}, {2, 5, 3}, {2, -3, 3}, {2, -5, 3}, {-5, 2, 3}, {17, 2, 0}, {-2, 3, 0}, {-2, -1, 3}, {-2, 5, 3},
            {2, 2, 0}, {6, 6, 3}, {2, 6, 3}, {2, -2, 0}, {-2, -2, 3}, {10, 6, 0}, {10, 2, 3}, {-58, -58, 3}};
        for (int[] side : sides) {
            check.due("at 2 of " + side[0] + ", " + side[1], Check.quaternion(side[0], side[1]).local(0, 2), side[2]);
            check.due("at 2 of " + side[1] + ", " + side[0], Check.quaternion(side[1], side[0]).local(0, 2), side[2]);
        }
    }

    // "the product of: -1, if r, s and (p - 1) / 2 are odd; LEGENDRE of u by p, if s is odd; LEGENDRE of v by p, if r is odd".
    private static void localAtOddPrimes() {
        int[][] sides = {{3, 2, 5, 0}, {3, 2, 3, 3}, {3, 7, 3, 0}, {3, -1, 3, 3}, {3, -2, 3, 0}, {3, 3, 3, 3}, {3, 3, -3, 0}, {3, -3, -3, 3},
            {3, 6, 3, 0}, {3, 6, 6, 3}, {5, 5, 5, 0}, {5, 5, 10, 3}, {5, 10, 10, 0}, {5, 5, -5, 0}, {5, 2, 5, 3}, {5, -1, 5, 0},
            {59, 59, 59, 3}, {59, 59, -59, 0}, {59, 2, 59, 3}, {59, 3, 59, 0}, {59, -1, 59, 3}, {53, 53, 53, 0}, {53, 2, 53, 3},
            {53, -1, 53, 0}, {61, 59, 58, 0}, {3, 5, -7, 0}};
        for (int[] side : sides) {
            String of = "at " + side[0] + " of " + side[1] + ", " + side[2];
            check.due(of, Check.quaternion(side[1], side[2]).local(0, side[0]), side[3]);
            check.due(of + ", the other way round", Check.quaternion(side[2], side[1]).local(0, side[0]), side[3]);
        }
    }

    // "t = how often p is in B, ..: 2 * (t * k modulo 3)": 2 is the second power of 3 modulo 7.
    private static void cyclicCountsHowOften() {
        int[] due = {0, 4, 2, 0, 4, 2, 0, 4, 2, 0};
        for (int t = 0; t < 10; t++) {
            for (int sign = -1; sign <= 1; sign += 2) {
                MiddleAlgebras x = Check.of("cyclic c 7 " + sign * (1 << t) + ";");
                check.due("at 2, " + t + " times", x.local(0, 2), due[t]);
                check.due("at 7, 2 " + t + " times", x.local(0, 7), (6 - due[t]) % 6);
                check.due("at 0", x.local(0, 0), 0);
                check.due("at 3", x.local(0, 3), 0);
                check.due("how many", x.place(0, -1), due[t] == 0 ? 0 : 2);
                check.due("index", x.index(0), due[t] == 0 ? 1 : 3);
            }
        }
    }

    // "k = the least power of g that is p modulo Q": all of them modulo 7 and 43, p beyond Q, too.
    private static void cyclicPowers() {
        int[][] modSeven = {{2, 4}, {3, 2}, {5, 4}, {11, 2}, {13, 0}, {17, 2}, {19, 4}, {29, 0}, {31, 2}, {43, 0}, {71, 0}, {997, 2}};
        for (int[] one : modSeven) {
            check.due("7, " + one[0], Check.of("cyclic c 7 " + one[0] + ";").local(0, one[0]), one[1]);
        }
        for (int p = 2; p < 999; p++) {
            if (Check.isPrime(p) && p != 43) {
                int k = 0;
                for (int power = 1; power != p % 43; power = power * 3 % 43) {
                    k++;
                }
                check.due("43, " + p, Check.of("cyclic c 43 " + p + ";").local(0, p), 2 * (k % 3));
            }
        }
    }

    // "At Q: so that all LOCAL INDEXES together are 0 modulo 6.", "At a prime p unlike Q".
    private static void cyclicAtQ() {
        int[][] due = {{7, 1, 0}, {7, -1, 0}, {7, 7, 0}, {7, -49, 0}, {7, 343, 0}, {7, 2, 2}, {7, 14, 2}, {7, 98, 2}, {7, 686, 2}, {7, 4, 4},
            {7, 6, 0}, {7, 10, 4}, {7, 30, 2}, {7, -30, 2}, {13, 13, 0}, {19, 361, 0}, {31, 961, 0}, {37, 37, 0}, {43, 43, 0}};
        for (int[] one : due) {
            MiddleAlgebras x = Check.of("cyclic c " + one[0] + " " + one[1] + ";");
            check.due("at Q of " + one[0] + ", " + one[1], x.local(0, one[0]), one[2]);
            check.due("at 0 of " + one[0] + ", " + one[1], x.local(0, 0), 0);
        }
    }

    // "of Q the least g whose powers are all numbers 1 to Q - 1 modulo Q": 3, 2, 2, 3, 2, 3, each by its first power.
    private static void leastGenerator() {
        int[][] fields = {{7, 3}, {13, 2}, {19, 2}, {31, 3}, {37, 2}, {43, 3}};
        for (int[] field : fields) {
            MiddleAlgebras x = Check.of("cyclic c " + field[0] + " " + field[1] + ";");
            check.due("the first power of g modulo " + field[0], x.local(0, field[1]), 2);
            check.due("at " + field[0], x.local(0, field[0]), 4);
        }
        // 2 is a third power modulo 31 and 43, 5 the twentieth of 3 modulo 31.
        check.due("31, 2", Check.of("cyclic c 31 2;").local(0, 2), 0);
        check.due("43, 2", Check.of("cyclic c 43 2;").local(0, 2), 0);
        check.due("31, 5", Check.of("cyclic c 31 5;").local(0, 5), 4);
    }

    private static void allTogether() {
        String[] texts = {"quaternion h -58 -59;", "quaternion h 59 58;", "cyclic h 43 -999;", "cyclic h 7 990;", "cyclic h 37 32;"};
        for (String text : texts) {
            MiddleAlgebras x = Check.of(text);
            int together = x.local(0, 0);
            for (int p = 2; p < 1000; p++) {
                together += Check.isPrime(p) ? x.local(0, p) : 0;
            }
            check.due("together of " + text, together % 6, 0);
        }
    }

    // "told in sixths, 0 to 5; sums modulo 6", "each by its SIGN, together".
    private static void sumsModuloSix() {
        String[] terms = {"+h", "-h", "+c", "-c"};
        int[] sixths = {3, -3, 4, -4};
        boolean[] seen = new boolean[6];
        for (int which = 0; which < 625; which++) {
            StringBuilder sum = new StringBuilder("quaternion h -1 -1;cyclic c 7 2;sum s ");
            int together = 0;
            int used = 0;
            for (int left = which; left > 0; left /= 5) {
                if (left % 5 > 0) {
                    sum.append(terms[left % 5 - 1]);
                    together += sixths[left % 5 - 1];
                    used++;
                }
            }
            if (used > 0) {
                int got = Check.of(sum.append(';').toString()).local(2, 2);
                check.due(sum.toString(), got, Math.floorMod(together, 6));
                seen[got] = true;
            }
        }
        for (int n = 0; n < 6; n++) {
            check.due("a LOCAL INDEX of " + n, seen[n], true);
        }
        MiddleAlgebras x = Check.of("quaternion h -1 -1;cyclic c 7 2;sum s +h+c;sum t -s-s-s-s;sum u +t+t+t+t;sum v -h-c;");
        int[] due = {3, 4, 1, 2, 2, 5};
        for (int k = 0; k < 6; k++) {
            check.due("local(" + k + ", 2)", x.local(k, 2), due[k]);
        }
    }

    // "The k-th PLACE (0 first, then by size) at which the LOCAL INDEX is not 0; how many (k NONE)".
    private static void placesInOrder() {
        MiddleAlgebras x = Check.of("cyclic c 7 997;quaternion h -59 -58;sum s +c+h;quaternion m 1 59;sum t +c-c;cyclic d 31 385;");
        // 5, 7 and 11 are the powers 20, 28 and 23 of 3 modulo 31: 4, 2 and 4 sixths, so that 31 has 2.
        long[][] due = {{7, 997}, {0, 2}, {0, 2, 7, 997}, {}, {}, {5, 7, 11, 31}};
        for (int k = 0; k < 6; k++) {
            check.due("how many of " + k, x.place(k, -1), due[k].length);
            for (int at = 0; at < due[k].length; at++) {
                check.due("place(" + k + ", " + at + ")", x.place(k, at), due[k][at]);
            }
            for (int at : new int[] {due[k].length, due[k].length + 1, 64, Integer.MAX_VALUE, -2, -3, Integer.MIN_VALUE}) {
                check.due("place(" + k + ", " + at + ")", x.place(k, at), -2);
            }
        }
    }

    private static void mostPlaces() {
        String text = "cyclic a 43 570;cyclic b 37 770;cyclic c 31 546;cyclic d 19 935;quaternion e -29 -42;sum f +a+b+c+d;sum g +f+e;"
                + "quaternion h 53 59;";
        for (int k = 0; k < 8; k++) {
            // Each asked of an object of its own: an object is used for 512 calls.
            long[] due = primesOf(text, k);
            MiddleAlgebras x = Check.of(text);
            check.due("how many of " + k, x.place(k, -1), due.length);
            for (int at = 0; at < due.length; at++) {
                check.due("place(" + k + ", " + at + ")", x.place(k, at), due[at]);
            }
            check.due("one more of " + k, x.place(k, due.length), -2);
        }
        check.due("many places", Check.of(text).place(6, -1) > 9, true);
    }

    /** The PLACES by going through all that can be. */
    private static long[] primesOf(String text, int algebra) {
        MiddleAlgebras x = Check.of(text);
        return java.util.stream.IntStream.range(0, 1000).filter(p -> p == 0 || Check.isPrime(p)).filter(p -> x.local(algebra, p) > 0)
                .asLongStream().toArray();
    }

    // "-2: none such, others."
    private static void placeOfOthers() {
        for (int k : Sample.NO_ALGEBRAS) {
            check.refused("place(" + k + ", 0)", -2, x -> x.place(k, 0));
            check.refused("place(" + k + ", -1)", -2, x -> x.place(k, -1));
        }
        for (int at : new int[] {-2, 2, 3, 63, 64, 65, Integer.MAX_VALUE, Integer.MIN_VALUE}) {
            check.refused("place(0, " + at + ")", -2, x -> x.place(0, at));
        }
        check.due("place(0, 1)", Sample.made().place(0, 1), 2);
        check.due("place(3, -1) of the last one", Sample.made().place(3, -1), 3);
    }

    // "the least n (1, 2, 3, 6) by which all LOCAL INDEXES are multiplied to 0. It SPLITS if that is 1." "NONE: none such."
    private static void index() {
        String text = "quaternion h -1 -1;quaternion m 1 -1;cyclic c 7 2;cyclic d 7 8;sum s +h+c;sum t +s+s;sum u +s+s+s;sum v +t+t+t;";
        long[] due = {2, 1, 3, 1, 6, 3, 2, 1};
        MiddleAlgebras x = Check.of(text);
        for (int k = 0; k < 8; k++) {
            check.due("index(" + k + ")", x.index(k), due[k]);
        }
        // 3 at one PLACE and 2 at another; 5 at one of them; 0 at 0 alone.
        check.due("3 and 2", Check.of("quaternion h 3 5;cyclic c 7 4;sum s +h+c;").index(2), 6);
        check.due("5", Check.of("quaternion h -1 -1;cyclic c 7 2;sum s -h-c;").index(2), 6);
        for (int k : Sample.NO_ALGEBRAS) {
            check.refused("index(" + k + ")", -1, y -> y.index(k));
        }
        check.due("index of the last one", Sample.made().index(3), 6);
    }

    // "1 two ALGEBRAS are of one CLASS, 0 not; NONE: none such." "of one CLASS if all LOCAL INDEXES are alike".
    private static void alike() {
        for (int k : Sample.NO_ALGEBRAS) {
            check.refused("alike(0, " + k + ")", -1, x -> x.alike(0, k));
            check.refused("alike(" + k + ", 0)", -1, x -> x.alike(k, 0));
            check.refused("alike(" + k + ", " + k + ")", -1, x -> x.alike(k, k));
        }
        for (int k = 0; k < 4; k++) {
            check.due("alike with itself", Sample.made().alike(k, k), 1);
        }
        // As many PLACES with the same LOCAL INDEXES, at others; the same PLACES with others.
        MiddleAlgebras x = Check.of("quaternion a -1 -1;quaternion b -1 -3;cyclic c 7 2;cyclic d 7 4;cyclic e 7 16;sum f -d;quaternion g 3 5;"
                + "quaternion h 3 -1;");
        int[] classOf = {0, 1, 2, 3, 2, 2, 4, 5};
        for (int k = 0; k < 8; k++) {
            for (int other = 0; other < 8; other++) {
                check.due("alike(" + k + ", " + other + ")", x.alike(k, other), classOf[k] == classOf[other] ? 1 : 0);
            }
        }
        check.due("classes()", x.classes(), 6);
    }

    // "How many CLASSES the ALGEBRAS are of (0: no ALGEBRAS)."
    private static void classes() {
        check.due("no ALGEBRAS", new MiddleAlgebras().classes(), 0);
        MiddleAlgebras x = new MiddleAlgebras();
        Check.text(x, "quaternion a 1 0;");
        check.due("no ALGEBRAS behind a FAULT", x.classes(), 0);
        check.due("one", Check.of("quaternion a 1 1;").classes(), 1);
        check.due("two alike", Check.of("quaternion a 1 1;quaternion b 1 2;").classes(), 1);
        check.due("two unlike", Check.of("quaternion a 1 1;quaternion b -1 -1;").classes(), 2);
        check.due("first and last alike", Check.of("quaternion a 1 1;quaternion b -1 -1;quaternion c 5 1;").classes(), 2);
        String unlike = "quaternion a 1 1;quaternion b -1 -1;quaternion c -1 -3;quaternion d 3 5;cyclic e 7 2;sum f -e;sum g +b+e;sum h +b-e;";
        check.due("eight unlike", Check.of(unlike).classes(), 8);
        MiddleAlgebras y = Check.of(EIGHT_ALIKE);
        for (int k = 0; k < 8; k++) {
            check.due("alike(3, " + k + ")", y.alike(3, k), k == 3 ? 1 : 0);
            check.due("alike(0, " + k + ")", y.alike(0, k), k == 3 ? 0 : 1);
        }
        check.due("seven of eight alike", y.classes(), 2);
        check.due("eight alike", Check.of(EIGHT_ALIKE.replace("-a+d", "-a").replace("cyclic d 7 1", "sum d -a")).classes(), 1);
    }

    // Of a TEXT that is read behind others all is as of the first of a new object.
    private static void earlierTextLeavesNothing() {
        String[] texts = {"quaternion a -1 -1;", "quaternion a 1 1;", "cyclic a 7 1;", "cyclic a 7 2;", "cyclic a 43 -994;", EIGHT_ALIKE,
            "cyclic a 43 570;cyclic b 37 770;cyclic c 31 546;cyclic d 19 935;quaternion e -29 -42;sum f +a+b+c+d;sum g +f+e;",
            "quaternion a 3 5;cyclic b 13 997;sum c +a-b;", "quaternion a -59 -58;sum b -a;", "cyclic a 31 2;quaternion b 2 7;sum c +a+b;",
            "quaternion a -1 -1;sum b +a+a+a+a;sum c -b-a-b-a;sum d +c+b+a;sum e -a;sum f -e-e-e-e;sum g +f+a+f+e;"};
        for (String first : texts) {
            for (String second : texts) {
                MiddleAlgebras x = Check.of(first);
                Check.text(x, first);
                Check.text(x, second);
                check.same("<" + second + "> behind <" + first + ">", toldPlaces(x), toldPlaces(Check.of(second)));
            }
        }
    }

    private static String toldPlaces(MiddleAlgebras x) {
        StringBuilder made = new StringBuilder().append(x.count(0)).append(' ').append(x.classes());
        for (int k = 0; k < x.count(0); k++) {
            made.append('\n').append(x.index(k)).append(' ').append(x.due(k)).append(' ').append(x.place(k, -1)).append(" at");
            for (int at = 0; at < 14; at++) {
                made.append(' ').append(x.place(k, at));
            }
            made.append(" local");
            for (int p : new int[] {0, 2, 3, 5, 7, 11, 13, 17, 19, 29, 31, 37, 43, 59, 71, 997}) {
                made.append(' ').append(x.local(k, p));
            }
            made.append(" alike");
            for (int other = 0; other < k; other++) {
                made.append(' ').append(x.alike(k, other));
            }
        }
        return made.toString();
    }
}
