/** Promises 1 (a new object), 2 (feed), 3 (text and its faults), 4 (algebra), 33 (count). */
public final class TapeTest {
    private static final Check check = new Check("TapeTest");

    public static void main(String[] args) {
        newObject();
        feed();
        textTakesTape();
        textThatIsRight();
        unfitTokens();
        names();
        numbers();
        oneTooMany();
        leastPlaceCounts();
        faultLeavesAllElse();
        textBeginsAnew();
        algebra();
        count();
        check.end();
    }

    private static void newObject() {
        MiddleAlgebras x = new MiddleAlgebras();
        check.due("NONE", MiddleAlgebras.NONE, -1);
        check.due("new count(0)", x.count(0), 0);
        check.due("new count(1)", x.count(1), 0);
        check.due("new count(2)", x.count(2), 0);
        check.due("new classes()", x.classes(), 0);
        check.due("new index(0)", x.index(0), -1);
        check.none("new algebra(0, 0)", () -> x.algebra(0, 0));
        for (int k = -1; k < 9; k++) {
            int slot = k;
            check.none("new element(" + k + ", 0)", () -> x.element(slot, 0));
        }
    }

    private static void feed() {
        MiddleAlgebras x = new MiddleAlgebras();
        for (int often = 1; often <= 30; often++) {
            check.due("feed no. " + often, x.feed(0x20202020, 10, -1, often, 0), 20 * often);
        }
        check.due("feed beyond 600", x.feed(0, 0, 0, 0, 0), -1);
        check.due("count(2) full", x.count(2), 600);
        check.due("text(601)", x.text(601), -1);
        check.due("tape stays", x.count(2), 600);
        // Four blanks, then three bytes that are 0: of each number the highest byte comes first.
        check.due("text(600) of no tokens", x.text(600), -2 - (8 * 4 + 1));
        check.due("tape is empty then", x.count(2), 0);
        check.due("feed anew", x.feed(0, 0, 0, 0, 0), 20);
        MiddleAlgebras y = new MiddleAlgebras();
        y.feed(0x7175_6174, 0x6572_6e69, 0x6f6e_2061, 0x202d_3120, 0x2d33_3b20);
        check.due("highest first", y.text(20), 1);
        check.due("A", y.algebra(0, 1), -1);
        check.due("B", y.algebra(0, 2), -3);
        // A new object takes 600 bytes in all, the last twenty too.
        String longest = "quaternion h 2 3;" + " ".repeat(583);
        check.due("600 bytes fit", Check.feed(x = new MiddleAlgebras(), longest), true);
        check.due("text of 600", x.text(600), 1);
    }

    private static void textTakesTape() {
        MiddleAlgebras x = new MiddleAlgebras();
        check.due("text(-1)", x.text(-1), -1);
        check.due("text(1) of an empty tape", x.text(1), -1);
        check.due("text(0)", x.text(0), -3);
        Check.feed(x, "quaternion h 2 3;");
        check.due("text(21)", x.text(21), -1);
        check.due("text(-1)", x.text(-1), -1);
        check.due("text(least)", x.text(Integer.MIN_VALUE), -1);
        check.due("text(greatest)", x.text(Integer.MAX_VALUE), -1);
        check.due("tape stays", x.count(2), 20);
        check.due("text(16)", x.text(16), -2 - (8 * 16 + 1));
        check.due("a fault empties the tape", x.count(2), 0);
        Check.feed(x, "quaternion h 2 3;");
        check.due("the rest of the tape is dropped", x.text(17), 1);
        check.due("empty", x.count(2), 0);
        check.due("text(0) again", x.text(0), -3);
        check.due("still there", x.count(0), 1);
    }

    private static void textThatIsRight() {
        due("quaternion h 2 3;", 1);
        due("quaternion\nh\n2\n3\n;\n", 1);
        due("  quaternion h-1-1;", 1);
        due("quaternion h - 1 - 1 ;", 1);
        due("quaternion h1 2;", 1);
        due("quaternion h 007 0000000000003;", 1);
        due("quaternion h 60 2;", Check.fault(13, 4));
        due("quaternion h 59 -59;quaternion i -58 57;", 2);
        due("cyclic c 7 2;cyclic d 13 999;cyclic e 19 -999;cyclic f 31 4;cyclic g 37 -8;cyclic h 43 1;", 6);
        due("quaternion a 1 1;sum b +a+a;sum c -b-a+b-a;sum d +c-c;", 4);
        due("quaternion abcdefghij 2 3;", 1);
        due("quaternion sums 2 3;quaternion cycli 2 3;quaternion quaternio 1 1;", 3);
        due("quaternion a 1 1;quaternion b 1 1;quaternion c 1 1;quaternion d 1 1;"
                + "quaternion e 1 1;quaternion f 1 1;quaternion g 1 1;quaternion h 1 1;", 8);
    }

    private static void unfitTokens() {
        due("", Check.fault(0, 1));
        due("   \n ", Check.fault(5, 1));
        due(";", Check.fault(0, 1));
        due("h 2 3;", Check.fault(0, 1));
        due("Quaternion h 2 3;", Check.fault(0, 1));
        due("quaternion", Check.fault(10, 1));
        due("quaternion  ", Check.fault(12, 1));
        due("quaternion 2 3;", Check.fault(11, 1));
        due("quaternion sum 2 3;", Check.fault(11, 1));
        due("quaternion cyclic 2 3;", Check.fault(11, 1));
        due("quaternion quaternion 2 3;", Check.fault(11, 1));
        due("quaternion abcdefghijk 2 3;", Check.fault(11, 1));
        due("quaternions h 2 3;", Check.fault(0, 1));
        due("quaternion h 2;", Check.fault(14, 1));
        due("quaternion h + 2 3;", Check.fault(13, 1));
        due("quaternion h --2 3;", Check.fault(14, 1));
        due("quaternion h 2 - ;", Check.fault(17, 1));
        due("quaternion h 2 3", Check.fault(16, 1));
        due("quaternion h 2 3 4;", Check.fault(17, 1));
        due("quaternion h 2 3;;", Check.fault(17, 1));
        due("quaternion h 2 3; x", Check.fault(18, 1));
        due("quaternion h\t2 3;", Check.fault(12, 1));
        due("quaternion h 2,3;", Check.fault(14, 1));
        due("quaternion h 2 3;\r", Check.fault(17, 1));
        due("quaternion h 2 \u00e93;", Check.fault(15, 1));
        due("quaternion h\u0000 2 3;", Check.fault(12, 1));
        due("quaternion h\u0080 2 3;", Check.fault(12, 1));
        due("quaternion h\u00ff 2 3;", Check.fault(12, 1));
        due("quaternion hA 2 3;", Check.fault(12, 1));
        due("quaternion h`2 3;", Check.fault(12, 1));
        due("quaternion h{2 3;", Check.fault(12, 1));
        due("quaternion h/2 3;", Check.fault(12, 1));
        due("quaternion h:2 3;", Check.fault(12, 1));
        due("cyclic c -7 2;", Check.fault(9, 1));
        due("cyclic c 7;", Check.fault(10, 1));
        due("cyclic c 7 +2;", Check.fault(11, 1));
        due("sum s;", Check.fault(5, 1));
        due("quaternion a 1 1;sum s a;", Check.fault(23, 1));
        due("quaternion a 1 1;sum s +;", Check.fault(24, 1));
        due("quaternion a 1 1;sum s +a a;", Check.fault(26, 1));
        due("quaternion a 1 1;sum s +sum;", Check.fault(24, 1));
        due("quaternion a 1 1;sum s +cyclic;", Check.fault(24, 1));
        due("quaternion a 1 1;sum s +2;", Check.fault(24, 1));
        due("quaternion a 1 1;sum s +-a;", Check.fault(24, 1));
        due("quaternion a 1 1;sum s +abcdefghijk;", Check.fault(24, 1));
    }

    private static void names() {
        due("quaternion a 1 1;quaternion a 1 1;", Check.fault(28, 2));
        due("quaternion a 1 1;cyclic a 7 1;", Check.fault(24, 2));
        due("quaternion a 1 1;sum a +a;", Check.fault(21, 2));
        due("quaternion a 1 1;quaternion aa 1 1;quaternion b 1 1;quaternion aa 1 1;", Check.fault(63, 2));
        due("quaternion abcdefghij 1 1;quaternion abcdefghik 1 1;", 2);
        due("sum s +a;", Check.fault(7, 3));
        due("sum s +s;", Check.fault(7, 3));
        due("sum s +a;quaternion a 1 1;", Check.fault(7, 3));
        due("quaternion a 1 1;sum s +a-b;", Check.fault(26, 3));
        due("quaternion a 1 1;sum s +aa;", Check.fault(24, 3));
    }

    private static void numbers() {
        due("quaternion h 0 3;", Check.fault(13, 4));
        due("quaternion h -0 3;", Check.fault(14, 4));
        due("quaternion h 2 00;", Check.fault(15, 4));
        due("quaternion h 61 3;", Check.fault(13, 4));
        due("quaternion h - 61 3;", Check.fault(15, 4));
        due("quaternion h 4 3;", Check.fault(13, 4));
        due("quaternion h 2 -49;", Check.fault(16, 4));
        due("quaternion h 99999999999999999999999 1;", Check.fault(13, 4));
        due("quaternion h 4294967297 1;", Check.fault(13, 4));
        due("quaternion h 18446744073709551617 1;", Check.fault(13, 4));
        for (int n = 1; n <= 70; n++) {
            boolean fits = n <= 60 && Check.isSquareFree(n);
            due("quaternion h " + n + " 1;", fits ? 1 : Check.fault(13, 4));
            due("quaternion h 1 -" + n + ";", fits ? 1 : Check.fault(16, 4));
            boolean field = n == 7 || n == 13 || n == 19 || n == 31 || n == 37 || n == 43;
            due("cyclic c " + n + " 1;", field ? 1 : Check.fault(9, 4));
        }
        due("cyclic c 0 1;", Check.fault(9, 4));
        due("cyclic c 4294967303 1;", Check.fault(9, 4));
        due("cyclic c 7 0;", Check.fault(11, 4));
        due("cyclic c 7 999;", 1);
        due("cyclic c 7 -999;", 1);
        due("cyclic c 7 1000;", Check.fault(11, 4));
        due("cyclic c 7 - 1000;", Check.fault(13, 4));
        due("cyclic c 7 900;", 1);
    }

    private static void oneTooMany() {
        String eight = "quaternion a 1 1;quaternion b 1 1;quaternion c 1 1;quaternion d 1 1;"
                + "quaternion e 1 1;quaternion f 1 1;quaternion g 1 1;quaternion h 1 1; ";
        int at = eight.length();
        due(eight, 8);
        due(eight + "quaternion i 1 1;", Check.fault(at, 5));
        due(eight + "cyclic", Check.fault(at, 5));
        due(eight + "sum a", Check.fault(at, 5));
        due(eight + "suma", Check.fault(at, 1));
        due(eight + "+", Check.fault(at, 1));
        due(eight + "*", Check.fault(at, 1));
        due("quaternion a 1 1;sum s +a-a+a-a;", 2);
        due("quaternion a 1 1;sum s +a-a+a-a+a;", Check.fault(31, 5));
        due("quaternion a 1 1;sum s +a-a+a-a-", Check.fault(31, 5));
        due("quaternion a 1 1;sum s +a-a+a-a 7", Check.fault(32, 1));
    }

    private static void leastPlaceCounts() {
        due("quaternion h 0 3; \u0001", Check.fault(13, 4));
        due("quaternion h 2 0 \u0001", Check.fault(15, 4));
        due("quaternion \u0001 0", Check.fault(11, 1));
        due("sum s +a-b+", Check.fault(7, 3));
        due("quaternion a 1 1;quaternion a 0 0;", Check.fault(28, 2));
        due("cyclic c 8 0;", Check.fault(9, 4));
    }

    private static void faultLeavesAllElse() {
        MiddleAlgebras x = Check.of("quaternion h -1 -1;cyclic c 7 2;");
        x.tell(3, 0, 1, 2, 3, 4);
        x.greatest(0);
        check.due("a fault", Check.text(x, "quaternion k 2 3;sum s +u;"), Check.fault(24, 3));
        check.due("a fault", Check.text(x, "cyclic k 19 3;cyclic l 13 3;cyclic m 13 4;cyclic"), Check.fault(48, 1));
        check.due("count(0)", x.count(0), 2);
        check.due("count(1)", x.count(1), 8);
        check.due("count(2)", x.count(2), 0);
        check.due("algebra(0, 0)", x.algebra(0, 0), 0);
        check.due("algebra(0, 3)", x.algebra(0, 3), 7);
        check.due("algebra(1, 1)", x.algebra(1, 1), 7);
        check.due("local(1, 2)", x.local(1, 2), 4);
        check.due("disc(0)", x.disc(0), 2);
        check.due("element(3, 3)", x.element(3, 3), 4);
    }

    private static void textBeginsAnew() {
        MiddleAlgebras x = Check.of("quaternion h -1 -1;cyclic c 7 2;quaternion k -1 -3;");
        x.tell(3, 0, 1, 2, 3, 4);
        x.greatest(0);
        x.greatest(2);
        check.due("disc(2)", x.disc(2), 3);
        check.due("the same text", Check.text(x, "quaternion h -1 -1;quaternion k -1 -3;"), 2);
        check.due("no elements", x.count(1), 0);
        check.due("orders as at first", x.disc(0), 4);
        check.due("orders as at first", x.disc(1), 12);
        check.due("below", x.row(1, 4, 0), 1);
        check.due("the third is gone", x.index(2), -1);
        check.due("count(0)", x.count(0), 2);
    }

    private static void algebra() {
        MiddleAlgebras x = Check.of("quaternion az -1 59;cyclic z 43 -999;sum m -az+z-z;sum n +m;");
        long[][] due = {{0, -1, 59, 0}, {1, 43, -999, 25}, {2, 3, 0, 12}, {2, 1, 0, 13}};
        for (int k = 0; k < 4; k++) {
            for (int what = 0; what < 4; what++) {
                check.due("algebra(" + k + ", " + what + ")", x.algebra(k, what), due[k][what]);
            }
        }
        int[][] others = {{-1, 0}, {4, 0}, {0, -1}, {0, 4}, {8, 0}, {Integer.MAX_VALUE, 1}, {Integer.MIN_VALUE, 2}};
        for (int[] one : others) {
            check.none("algebra(" + one[0] + ", " + one[1] + ")", () -> x.algebra(one[0], one[1]));
        }
    }

    private static void count() {
        MiddleAlgebras x = Check.of("quaternion h 2 3;cyclic c 7 2;");
        x.tell(0, 0, 1, 0, 0, 0);
        x.tell(5, 0, 1, 0, 0, 0);
        x.tell(7, 0, 0, 0, 0, 0);
        x.feed(0, 0, 0, 0, 0);
        check.due("count(0)", x.count(0), 2);
        check.due("count(1)", x.count(1), 1 + 32 + 128);
        check.due("count(2)", x.count(2), 20);
        check.due("count(3)", x.count(3), -1);
        check.due("count(-1)", x.count(-1), -1);
    }

    /** What a new object answers to the text. */
    private static void due(String text, long want) {
        check.due("text <" + text + ">", Check.text(new MiddleAlgebras(), text), want);
    }
}
