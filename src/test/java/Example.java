import java.util.NoSuchElementException;

public final class Example {
    public static void main(String[] args) {
        MiddleAlgebras x = new MiddleAlgebras();
        tapeAndText(x);
        places(x);
        elements(x);
        splitting(x);
        orders(x);
        leftIdeals(x);
    }

    private static void say(Object answer) {
        System.out.println(answer);
    }

    /** Four bytes come into each number, the first one highest; what is left of the last twenty bytes is blanks. */
    private static void put(MiddleAlgebras x, String text) {
        for (int from = 0; from < text.length(); from += 20) {
            int[] five = new int[5];
            for (int i = 0; i < 20; i++) {
                int sign = from + i < text.length() ? text.charAt(from + i) : ' ';
                five[i / 4] = five[i / 4] << 8 | sign;
            }
            x.feed(five[0], five[1], five[2], five[3], five[4]);
        }
    }

    private static void tapeAndText(MiddleAlgebras x) {
        // The twenty bytes "quaternion a -1 7;  ".
        say(x.feed(0x71756174, 0x65726e69, 0x6f6e2061, 0x202d3120, 0x373b2020)); // 20: bytes on the tape
        say(x.text(21)); // -1: so many are not there
        say(x.text(18)); // 1: one algebra
        say(x.count(2)); // 0: the tape is empty then
        put(x, "quaternion h -1 -1; quaternion k 7 2; cyclic c 7 2; sum s + h - c;");
        say(x.count(2)); // 80
        say(x.text(80)); // 4: these four are told now, instead of the one
        say(x.algebra(3, 0)); // 2: the last of them is a sum
        say(x.algebra(3, 1)); // 2: of two signs
        say(x.algebra(3, 3)); // 18: its name begins with s
        put(x, "quaternion q 12 5;");
        say(x.text(18)); // -110: -2 less (8 * 13 + 4), for at byte 13 is a number that can't be: 12 has the square 4 in it
        say(x.count(0)); // 4: a fault leaves the algebras as they were
    }

    private static void places(MiddleAlgebras x) {
        say(x.local(0, 2)); // 3: h has three sixths at the prime 2
        say(x.local(0, 0)); // 3: and at 0
        say(x.local(0, 7)); // 0
        say(x.local(0, 9)); // -1: no prime
        say(x.local(2, 2)); // 4: c has four sixths at 2
        say(x.local(3, 2)); // 5: and s, which is h less c, 3 - 4 modulo 6
        say(x.place(3, MiddleAlgebras.NONE)); // 3: s has so many places
        say(x.place(3, 2)); // 7: of these, 0, 2 and 7, the last one
        say(x.place(3, 3)); // -2: no more
        say(x.index(0)); // 2
        say(x.index(1)); // 1: k splits
        say(x.index(3)); // 6
        say(x.alike(0, 1)); // 0
        say(x.classes()); // 4: no two are alike
    }

    private static void elements(MiddleAlgebras x) {
        say(x.tell(0, 0, 1, 1, 1, 1)); // true: element 0 is 1 + i + j + k, of h
        say(x.over(0, 2)); // 0: half of that
        say(x.element(0, 4)); // 2: what is below its numbers
        say(x.tell(1, 0, 0, 1, 0, 0)); // true: element 1 is i
        say(x.tell(2, 0, 1000001, 0, 0, 0)); // false: too great a number
        say(x.tell(2, 0, 1000000, 0, 0, 0)); // true: the greatest one
        say(x.plus(2, 1, 1, 3)); // 0: element 3 is 1000000 + i
        say(x.plus(2, 2, 1, 3)); // -3: 2000000 is too great, element 3 stays
        say(x.times(0, 1, 2)); // 0: element 2 is (-1 + i + j - k) / 2
        say(x.element(2, 3)); // -1: its number of k
        say(x.plus(0, 1, -1, 3)); // 0: element 3 is (1 - i + j + k) / 2
        say(x.plus(0, 7, 1, 3)); // -1: none is kept as 7
        say(x.mirror(0, 4)); // 0: element 4 is (1 - i - j - k) / 2
        say(x.inverse(1, 5)); // 0: element 5 is -i, for i * -i is 1
        say(x.norm(0, 0)); // 1: the norm of element 0, above
        say(x.norm(0, 1)); // 1: and below
        say(x.trace(0, 0)); // 1
        say(x.count(1)); // 63: elements 0 to 5 are kept
        try {
            say(x.element(6, 0)); // NoSuchElementException: none is kept there
        } catch (NoSuchElementException e) {
            say("NoSuchElementException");
        }
    }

    private static void splitting(MiddleAlgebras x) {
        say(x.solution(1, 0)); // 3: 3 * 3 = 7 * 1 * 1 + 2 * 1 * 1
        say(x.solution(1, 1)); // 1
        say(x.solution(1, 2)); // 1
        say(x.solution(0, 0)); // -2: h does not split
        say(x.solution(2, 0)); // -1: c is no quaternion algebra
        say(x.tell(6, 1, 0, 0, 1, 0)); // true: element 6 is j, of k; its matrix is 3, -7 / 1, -3
        say(x.matrix(6, 0, 1, 0)); // -7: row 0, column 1, above
        say(x.matrix(6, 0, 1, 1)); // 1: and below
        say(x.times(6, 0, 7)); // -1: elements 6 and 0 are not of one algebra
    }

    private static void orders(MiddleAlgebras x) {
        say(x.disc(0)); // 4: the order of 1, i, j, k
        say(x.due(0)); // 2
        say(x.isIn(0)); // 0: element 0 is not in it
        say(x.many(0, 1)); // 8: elements of norm 1 in it
        say(x.enlarge(0, 3)); // 0: at 3 it can't be
        say(x.enlarge(0, 2)); // 2: into so many lots the new order falls by the former one
        say(x.disc(0)); // 2: greatest, as disc is due
        say(x.row(0, 4, 0)); // 2: what is below the rows' numbers
        say(x.row(0, 0, 3)); // 1: row 0 is 1, 1, 1, 1 over that
        say(x.table(0, 0, 0, 0)); // -1: row 0 times itself is row 1, 2 and 3 together less row 0
        say(x.isIn(0)); // 1
        say(x.many(0, 1)); // 24
        say(x.greatest(1)); // 3: so many times the order of k is enlarged
        say(x.disc(1)); // 1
        say(x.plain(1)); // true: it is as at first
        say(x.disc(1)); // 56
    }

    private static void leftIdeals(MiddleAlgebras x) {
        say(x.tell(6, 0, 1, 1, 0, 0)); // true: element 6 is 1 + i, of h
        say(x.tell(7, 0, 1, 2, 0, 0)); // true: element 7 is 1 + 2i
        say(x.ideal(6, MiddleAlgebras.NONE)); // 4: the order falls into four lots by the left ideal of element 6
        say(x.ideal(6, 7)); // 1: both together make all of it
        say(x.isInIdeal(6, MiddleAlgebras.NONE, 7)); // 0: element 7 is not in the left ideal of element 6
        say(x.isTwoSided(6, MiddleAlgebras.NONE)); // 1
        say(x.isTwoSided(7, MiddleAlgebras.NONE)); // 0
        say(x.plain(0)); // true
        say(x.ideal(0, 6)); // -2: element 0 is not in the order any more
    }
}
