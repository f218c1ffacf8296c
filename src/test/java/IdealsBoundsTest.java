/** LEFT IDEALS and many, promises 29 to 32: a method for each sentence that names a boundary; the sentence stands above it. */
public final class IdealsBoundsTest {
    private static final Check check = new Check("IdealsBoundsTest");
    private static final int MILLION = 1000000;

    public static void main(String[] args) {
        refused();
        firstThatFits();
        hundred();
        hundredBelow();
        firstOfNormNought();
        ofOneOrTwo();
        notInTheOrder();
        leastAndGreatestIndex();
        askedOfAnySize();
        askedThatIsNotThere();
        fromTheLeftAlone();
        twoSided();
        byTheOrderThatIs();
        manyNorms();
        manySigns();
        manyOfNought();
        manyOfOthers();
        check.end();
    }

    // "NONE: none kept, not of one ALGEBRA; -2: one is not in the ORDER; -3: ..": all three calls, and all else stays.
    private static void refused() {
        for (int k : Sample.NOT_KEPT) {
            refused(k, -1, -1);
            refused(k, Sample.HALF, -1);
            refused(k, k, -1);
            if (k != -1) {
                refused(Sample.HALF, k, -1);
            }
        }
        refused(Sample.HALF, Sample.NORM_NOUGHT, -1);
        refused(Sample.NORM_NOUGHT, Sample.HALF, -1);
        refused(Sample.THIRD, -1, -2);
        refused(Sample.MILLIONTH, -1, -2);
        refused(Sample.THIRD, Sample.MILLIONTH, -2);
        refused(Sample.NORM_NOUGHT, -1, -3);
        refused(Sample.NORM_NOUGHT, Sample.NORM_NOUGHT, -3);
        refused(Sample.GREAT, -1, -3);
        refused(Sample.BEYOND, -1, -3);
        refused(Sample.BEYOND, Sample.HALF, -3);
        refused(Sample.HALF, Sample.BEYOND, -3);
        refused(Sample.HALF, Sample.GREAT, -3);
    }

    // "of several that fit the first".
    private static void firstThatFits() {
        refused(Sample.THIRD, Sample.HALF, -1);
        refused(Sample.HALF, Sample.THIRD, -1);
        refused(Sample.THIRD, Sample.EMPTY, -1);
        refused(Sample.NORM_NOUGHT, Sample.EMPTY, -1);
        refused(Sample.GREAT, Sample.EMPTY, -1);
        refused(Sample.GREAT, Sample.NORM_NOUGHT, -1);
        refused(Sample.MILLIONTH, -2, -1);
        refused(Sample.NORM_NOUGHT, Sample.THIRD, -2);
        refused(Sample.THIRD, Sample.NORM_NOUGHT, -2);
        refused(Sample.MILLIONTH, Sample.NORM_NOUGHT, -2);
        MiddleAlgebras x = Check.quaternion(1, 1);
        x.tell(0, 0, 1, 101, 0, 0);
        x.tell(1, 0, 1, 0, 0, 0);
        x.over(1, 3);
        x.tell(2, 0, 1, 1, 0, 0);
        x.over(2, 101);
        check.due("beyond 100, and not in the ORDER", x.ideal(0, 1), -2);
        check.due("not in the ORDER, and beyond 100", x.ideal(1, 0), -2);
        check.due("NORM 0, below 101 and not in the ORDER", x.ideal(2, -1), -2);
        check.due("NORM 0, below 101 and not in the ORDER", x.isTwoSided(2, 2), -2);
        check.due("NORM 0, below 101 and not in the ORDER", x.isInIdeal(2, 2, 0), -2);
        check.due("likewise, with what is not kept asked", x.isInIdeal(2, 2, 7), -1);
    }

    private static void refused(int k, int other, long want) {
        String of = "(" + k + ", " + other + ")";
        check.refused("ideal" + of, want, x -> x.ideal(k, other));
        check.refused("isTwoSided" + of, want, x -> x.isTwoSided(k, other));
        int asked = k == Sample.NORM_NOUGHT || k == Sample.THIRD || k == Sample.MILLIONTH ? Sample.NORM_NOUGHT : Sample.SMALL;
        check.refused("isInIdeal" + of, want, x -> x.isInIdeal(k, other, asked));
        check.refused("isInIdeal" + of + ", asked is not kept", -1, x -> x.isInIdeal(k, other, Sample.EMPTY));
    }

    // "one of the five numbers of either is above 100 or below -100": the four numbers.
    private static void hundred() {
        for (int at = 0; at < 4; at++) {
            for (int n : new int[] {100, -100, 101, -101, MILLION, -MILLION}) {
                MiddleAlgebras x = Check.quaternion(-59, 3);
                x.tell(0, 0, 1, 0, 0, 0);
                x.tell(1, 0, at == 0 ? n : 0, at == 1 ? n : 0, at == 2 ? n : 0, at == 3 ? n : 0);
                boolean fits = Math.abs(n) == 100;
                String of = n + " at " + at;
                long norm = x.norm(1, 0);
                check.due("ideal of " + of, x.ideal(1, -1), fits ? norm * norm : -3);
                check.due("ideal of " + of + " and 1", x.ideal(1, 0), fits ? 1 : -3);
                check.due("ideal of 1 and " + of, x.ideal(0, 1), fits ? 1 : -3);
                check.due("isTwoSided of " + of, Math.min(x.isTwoSided(1, -1), 0), fits ? 0 : -3);
                check.due("isTwoSided of 1 and " + of, x.isTwoSided(0, 1), fits ? 1 : -3);
                check.due("isInIdeal of 1 and " + of, x.isInIdeal(0, 1, 0), fits ? 1 : -3);
                check.due("isInIdeal of 1, asked " + of, x.isInIdeal(0, -1, 1), 1);
            }
        }
    }

    // The fifth: no ORDER has 96 to 101 below an ELEMENT, but 95 and 102.
    private static void hundredBelow() {
        MiddleAlgebras x = Check.of("quaternion a -19 -15;quaternion b -59 -51;");
        x.greatest(0);
        x.greatest(1);
        x.tell(0, 0, 0, 5, 19, 64);
        x.over(0, 95);
        check.due("over 95 in the ORDER", x.isIn(0), 1);
        check.due("over 95", x.element(0, 4), 95);
        long norm = x.norm(0, 0);
        check.due("whole norm", x.norm(0, 1), 1);
        check.due("ideal of one over 95", x.ideal(0, -1), norm * norm);
        x.tell(1, 1, 0, 0, 1, 79);
        x.over(1, 102);
        x.tell(2, 1, 1, 0, 0, 0);
        check.due("over 102 in the ORDER", x.isIn(1), 1);
        check.due("ideal of one over 102", x.ideal(1, -1), -3);
        check.due("ideal of 1 and one over 102", x.ideal(2, 1), -3);
        check.due("isTwoSided of one over 102", x.isTwoSided(1, -1), -3);
        check.due("isInIdeal of one over 102", x.isInIdeal(1, -1, 2), -3);
        check.due("one over 102 asked", x.isInIdeal(2, -1, 1), 1);
        check.due("1 alone", x.ideal(2, -1), 1);
    }

    // "-3: the NORM of the first is 0": that of the second may be.
    private static void firstOfNormNought() {
        MiddleAlgebras x = Check.quaternion(1, 1);
        int[][] numbers = {{2, 0, 0, 0}, {1, 1, 0, 0}, {0, 0, 0, 0}, {100, 0, 100, 0}, {1, 2, 0, 0}};
        for (int k = 0; k < 5; k++) {
            int[] n = numbers[k];
            x.tell(k, 0, n[0], n[1], n[2], n[3]);
        }
        for (int k = 1; k < 4; k++) {
            check.due("NORM 0", x.norm(k, 0), 0);
            check.due("ideal of NORM 0", x.ideal(k, -1), -3);
            check.due("ideal of NORM 0 and 2", x.ideal(k, 0), -3);
            check.due("isTwoSided of NORM 0 and 2", x.isTwoSided(k, 0), -3);
            check.due("isInIdeal of NORM 0 and 2", x.isInIdeal(k, 0, 0), -3);
        }
        check.due("ideal of 2 and 1 + i", x.ideal(0, 1), 4);
        check.due("ideal of 2 and 0", x.ideal(0, 2), 16);
        check.due("ideal of 2 and 100 + 100j", x.ideal(0, 3), 16);
        check.due("ideal of a NORM below 0", x.ideal(4, -1), 9);
        check.due("isTwoSided of 2 and 0", x.isTwoSided(0, 2), 1);
        check.due("isInIdeal: 1 + i of 2 and 0", x.isInIdeal(0, 2, 1), 0);
        check.due("isInIdeal: 0 of 2 and 0", x.isInIdeal(0, 2, 2), 1);
    }

    // "(of one, NONE for the other one)": -2 is no NONE.
    private static void ofOneOrTwo() {
        MiddleAlgebras x = Check.quaternion(-1, -1);
        x.tell(0, 0, 2, 0, 0, 0);
        x.tell(1, 0, 3, 0, 0, 0);
        x.tell(7, 0, 4, 0, 0, 0);
        long[][] due = {{0, -1, 16}, {1, -1, 81}, {0, 1, 1}, {1, 0, 1}, {0, 0, 16}, {0, 7, 16}, {7, 0, 16}, {7, -1, 256}, {7, 7, 256}};
        for (long[] one : due) {
            check.due("ideal(" + one[0] + ", " + one[1] + ")", x.ideal((int) one[0], (int) one[1]), one[2]);
        }
        for (int other : new int[] {-2, -3, 2, 6, 8, 9, Integer.MAX_VALUE, Integer.MIN_VALUE}) {
            check.due("ideal(0, " + other + ")", x.ideal(0, other), -1);
            check.due("isTwoSided(0, " + other + ")", x.isTwoSided(0, other), -1);
            check.due("isInIdeal(0, " + other + ", 0)", x.isInIdeal(0, other, 0), -1);
        }
    }

    // "-2: one is not in the ORDER": of the same two, ahead of greatest() and behind it.
    private static void notInTheOrder() {
        MiddleAlgebras x = Check.quaternion(-1, -1);
        x.tell(0, 0, 1, 1, 1, 1);
        x.over(0, 2);
        x.tell(1, 0, 2, 0, 0, 0);
        for (int round = 0; round < 2; round++) {
            check.due("half alone", x.ideal(0, -1), -2);
            check.due("half and 2", x.ideal(0, 1), -2);
            check.due("2 and half", x.ideal(1, 0), -2);
            check.due("isTwoSided of 2 and half", x.isTwoSided(1, 0), -2);
            check.due("isInIdeal of 2 and half", x.isInIdeal(1, 0, 1), -2);
            check.due("half is not in that of 2", x.isInIdeal(1, -1, 0), 0);
            x.greatest(0);
            check.due("half alone, greatest", x.ideal(0, -1), 1);
            check.due("half and 2, greatest", x.ideal(0, 1), 1);
            check.due("2 and half, greatest", x.ideal(1, 0), 1);
            check.due("isTwoSided of 2 and half, greatest", x.isTwoSided(1, 0), 1);
            check.due("isInIdeal of 2 and half, greatest", x.isInIdeal(1, 0, 1), 1);
            x.plain(0);
        }
    }

    // "INDEX in the ORDER: into how many lots the ORDER falls by it": 1 at least.
    private static void leastAndGreatestIndex() {
        MiddleAlgebras x = Check.quaternion(-59, -59);
        x.tell(0, 0, 100, -100, 100, -100);
        x.tell(1, 0, 100, 100, 100, 100);
        x.tell(2, 0, -1, 0, 0, 0);
        check.due("greatest index", x.ideal(0, -1), 36000000L * 36000000L);
        check.due("greatest index", x.ideal(1, -1), 36000000L * 36000000L);
        check.due("greatest index, twice the same", x.ideal(1, 1), 36000000L * 36000000L);
        check.due("least index", x.ideal(2, -1), 1);
        check.due("least index", x.ideal(0, 2), 1);
        check.due("in the greatest", x.isInIdeal(1, -1, 1), 1);
        check.due("not in the greatest", x.isInIdeal(1, -1, 0), 0);
        x.greatest(0);
        check.due("greatest index in the greatest", x.ideal(0, -1), 36000000L * 36000000L);
    }

    // "1 an ELEMENT is in the LEFT IDEAL of two, 0 not (also if it is not in the ORDER)".
    private static void askedOfAnySize() {
        MiddleAlgebras x = Check.quaternion(-1, -1);
        x.tell(0, 0, 3, 0, 0, 0);
        int[][] asked = {{999999, -999999, 999999, -999999, 1}, {MILLION, 0, 0, 0, 0}, {MILLION, -MILLION, MILLION, -MILLION, 0},
            {999999, 999999, 999999, MILLION, 0}, {999999, 0, 0, -999998, 0}, {0, 0, 0, 0, 1}, {3, 0, 0, 0, 1}, {0, 0, 0, -3, 1}, {2, 0, 0, 0, 0}};
        for (int[] n : asked) {
            x.tell(1, 0, n[0], n[1], n[2], n[3]);
            check.due("isInIdeal of 3: " + n[0] + " .. " + n[3], x.isInIdeal(0, -1, 1), n[4]);
            x.over(1, 2);
            check.due("isInIdeal of 3, by 2 less", x.isInIdeal(0, -1, 1), n[4] == 1 && x.isIn(1) == 1 ? 1 : 0);
        }
        x.tell(1, 0, 3, 3, 3, 3);
        x.over(1, 2);
        check.due("not in the ORDER", x.isInIdeal(0, -1, 1), 0);
        x.greatest(0);
        check.due("in the greatest ORDER", x.isInIdeal(0, -1, 1), 1);
        x.tell(1, 0, 1, 0, 0, 0);
        x.over(1, 1000);
        x.over(1, 1000);
        check.due("a millionth", x.isInIdeal(0, -1, 1), 0);
    }

    // "NONE, -2, -3 as ideal() (NONE: also if it is not kept, of another ALGEBRA)".
    private static void askedThatIsNotThere() {
        for (int asked : Sample.NOT_KEPT) {
            check.refused("isInIdeal(0, -1, " + asked + ")", -1, x -> x.isInIdeal(Sample.HALF, -1, asked));
            check.refused("isInIdeal(0, 1, " + asked + ")", -1, x -> x.isInIdeal(Sample.HALF, Sample.SMALL, asked));
        }
        int[] due = {0, 1, -1, -1, 0, -1, -1, 1};
        for (int k = 0; k < 8; k++) {
            int asked = k;
            check.refused("isInIdeal(1, -1, " + k + ")", due[k], x -> x.isInIdeal(Sample.SMALL, -1, asked));
        }
    }

    // "all sums of an ELEMENT of the ORDER times the first and one times the other one".
    private static void fromTheLeftAlone() {
        MiddleAlgebras x = Check.quaternion(-1, -1);
        x.tell(0, 0, 1, 2, 0, 0);
        x.tell(1, 0, 0, 0, 1, 0);
        x.tell(3, 0, 1, 0, 2, 0);
        x.times(1, 0, 2);
        check.due("j times it", x.isInIdeal(0, -1, 2), 1);
        x.times(0, 1, 2);
        check.due("it times j", x.isInIdeal(0, -1, 2), 0);
        check.due("it times j, with another one", x.isInIdeal(0, 3, 2), 1);
        check.due("not two-sided", x.isTwoSided(0, -1), 0);
        x.plus(0, 3, 1, 2);
        check.due("sum of both, of one", x.isInIdeal(0, -1, 2), 0);
        check.due("sum of both, of two", x.isInIdeal(0, 3, 2), 1);
    }

    // "It is TWO-SIDED if with any ELEMENT of it and any of the ORDER it has their product, also that way round."
    private static void twoSided() {
        MiddleAlgebras x = Check.quaternion(-1, -1);
        int[][] one = {{1, 0, 0, 0, 1}, {7, 0, 0, 0, 1}, {1, 1, 0, 0, 1}, {1, 2, 0, 0, 0}, {0, 1, 0, 0, 1}, {2, 4, 0, 0, 0}, {1, 1, 1, 0, 0},
            {2, 2, 0, 0, 1}, {1, 1, 1, 1, 1}};
        for (int[] n : one) {
            x.tell(0, 0, n[0], n[1], n[2], n[3]);
            check.due("isTwoSided of " + n[0] + ", " + n[1] + ", " + n[2] + ", " + n[3], x.isTwoSided(0, -1), n[4]);
        }
        x.tell(0, 0, 5, 0, 0, 0);
        x.tell(1, 0, 1, 2, 0, 0);
        x.tell(2, 0, 1, 0, 2, 0);
        check.due("5 alone", x.isTwoSided(0, -1), 1);
        check.due("5 and 1 + 2i: only the second breaks it", x.isTwoSided(0, 1), 0);
        check.due("1 + 2i and 5", x.isTwoSided(1, 0), 0);
        check.due("1 + 2i and 1 + 2j: all", x.isTwoSided(1, 2), 1);
    }

    private static void byTheOrderThatIs() {
        MiddleAlgebras x = Check.quaternion(-3, -3);
        x.tell(0, 0, 3, 1, 0, 0);
        long norm = x.norm(0, 0);
        check.due("norm", norm, 12);
        for (int steps = 0; steps < 4; steps++) {
            check.due("ideal in each ORDER", x.ideal(0, -1), norm * norm);
            x.enlarge(0, steps % 2 == 0 ? 2 : 3);
        }
    }

    // "How many ELEMENTS of the ORDER have the NORM n (0 to 12); NONE: others".
    private static void manyNorms() {
        long[] plain = {1, 8, 24, 32, 24, 48, 96, 64, 24, 104, 144, 96, 96};
        MiddleAlgebras x = Check.quaternion(-1, -1);
        for (int n = -3; n <= 16; n++) {
            check.due("many(0, " + n + ")", x.many(0, n), n >= 0 && n <= 12 ? plain[n] : -1);
        }
        for (int n : new int[] {-1, -2, 13, 14, Integer.MAX_VALUE, Integer.MIN_VALUE}) {
            check.refused("many(0, " + n + ")", -1, y -> y.many(Sample.H, n));
        }
        check.due("many(0, 12) of the greatest", Sample.made().many(Sample.H, 12), 96);
        MiddleAlgebras z = Check.quaternion(-59, -59);
        int[] squares = {1, 2, 0, 0, 2, 0, 0, 0, 0, 2, 0, 0, 0};
        for (int n = 0; n <= 12; n++) {
            check.due("squares alone: " + n, z.many(0, n), squares[n]);
        }
        // x * x + 11 * y * y + 11 * z * z: 11 and 12 are the first that i and j bring.
        MiddleAlgebras w = Check.quaternion(-11, -11);
        int[] eleven = {1, 2, 0, 0, 2, 0, 0, 0, 0, 2, 0, 4, 8};
        for (int n = 0; n <= 12; n++) {
            check.due("eleven: " + n, w.many(0, n), eleven[n]);
        }
    }

    // "NONE: others, A or B is not below 0."
    private static void manySigns() {
        int[][] sides = {{-1, -1, 8}, {-1, 1, -1}, {1, -1, -1}, {1, 1, -1}, {-59, -59, 2}, {-59, 59, -1}, {59, -59, -1}, {-2, -3, 2}};
        for (int[] side : sides) {
            MiddleAlgebras x = Check.quaternion(side[0], side[1]);
            check.due("many(0, 1) of " + side[0] + ", " + side[1], x.many(0, 1), side[2]);
            check.due("many(0, 0) of " + side[0] + ", " + side[1], x.many(0, 0), side[2] > 0 ? 1 : -1);
        }
    }

    private static void manyOfNought() {
        int[][] sides = {{-1, -1}, {-59, -58}, {-42, -42}, {-3, -1}};
        for (int[] side : sides) {
            MiddleAlgebras x = Check.quaternion(side[0], side[1]);
            check.due("many(0, 0)", x.many(0, 0), 1);
            x.greatest(0);
            check.due("many(0, 0) of the greatest", x.many(0, 0), 1);
        }
    }

    private static void manyOfOthers() {
        for (int k : Sample.NO_QUATERNIONS) {
            for (int n : new int[] {-1, 0, 1, 12, 13}) {
                check.refused("many(" + k + ", " + n + ")", -1, x -> x.many(k, n));
            }
        }
        check.refused("many(1, 1)", -1, x -> x.many(Sample.K, 1));
    }
}
