/** Section 1, promises 1 to 4 and 33: a method for each sentence that names a boundary; the sentence stands above it. */
public final class TapeBoundsTest {
    private static final Check check = new Check("TapeBoundsTest");
    private static final int[] FIELDS = {7, 13, 19, 31, 37, 43};
    private static final String ONE = "quaternion a 1 1;";
    private static final String EIGHT = ONE + "quaternion b 1 1;quaternion c 1 1;quaternion d 1 1;quaternion e 1 1;quaternion f 1 1;"
            + "quaternion g 1 1;quaternion h 1 1;";

    public static void main(String[] args) {
        tapeIsFull();
        refusedFeedBringsNothing();
        highestByteFirst();
        blanks();
        everyByteAtFourPlaces();
        wordsHaveTenLetters();
        numbersHaveAnyCountOfDigits();
        everyPrefix();
        everyTokenAtEveryPlace();
        quaternionSides();
        cyclicField();
        cyclicNumber();
        numbersDoNotWrapAround();
        wholes();
        sumHasFourTerms();
        namesOfSumsAreToldAhead();
        namesAreNoKeywords();
        namesAreNotAlike();
        eightAlgebras();
        leastPlaceCounts();
        firstOfTheListCounts();
        newObject();
        firstBytesOfTheTape();
        tapeIsEmptyThen();
        textThatIsRefused();
        textBeginsAnew();
        algebra();
        letters();
        count();
        lastCall();
        check.end();
    }

    // "THE TAPE has 600 bytes." "NONE, and none come, if it would have more than 600."
    private static void tapeIsFull() {
        MiddleAlgebras x = new MiddleAlgebras();
        check.due("empty", x.count(2), 0);
        for (int often = 1; often <= 30; often++) {
            check.due("feed no. " + often, x.feed(often, often, often, often, often), 20 * often);
            check.due("count(2)", x.count(2), 20 * often);
        }
        for (int often = 31; often <= 33; often++) {
            check.due("feed no. " + often, x.feed(often, often, often, often, often), -1);
            check.due("count(2)", x.count(2), 600);
        }
        String longest = "quaternion h 2 3" + " ".repeat(583) + ";";
        check.due("the last of 600 bytes counts", Check.text(new MiddleAlgebras(), longest), 1);
        MiddleAlgebras y = new MiddleAlgebras();
        Check.feed(y, longest);
        check.due("599 of 600 bytes", y.text(599), Check.fault(599, 1));
        check.due("600 more fit then", Check.text(y, longest), 1);
    }

    private static void refusedFeedBringsNothing() {
        MiddleAlgebras x = fullSample();
        check.due("feed beyond 600", x.feed(0x2a2a2a2a, -1, 0, 1, 2), -1);
        check.due("feed beyond 600", x.feed(0, 0, 0, 0, 0), -1);
        check.same("refused feed: all else", Sample.told(x), Sample.told(fullSample()));
    }

    private static MiddleAlgebras fullSample() {
        MiddleAlgebras x = Sample.made();
        for (int often = 2; often <= 30; often++) {
            x.feed(0x20202020, 0x20202020, 0x20202020, 0x20202020, 0x20202020);
        }
        return x;
    }

    // "Twenty bytes come behind THE TAPE, of each number the highest first."
    private static void highestByteFirst() {
        for (int at = 0; at < 20; at++) {
            for (int sign : new int[] {0, '*', 127, 128, 255}) {
                String text = " ".repeat(at) + (char) sign + "  quaternion h 2 3;";
                due(text, Check.fault(at, 1));
            }
        }
        MiddleAlgebras x = new MiddleAlgebras();
        Check.feed(x, "quaternion h 2 3;   ");
        Check.feed(x, "cyclic c 7 2;");
        check.due("behind the tape", x.text(33), 2);
    }

    // "Blanks, 32, 10, part TOKENS and mean nothing else."
    private static void blanks() {
        for (String blank : new String[] {" ", "\n", "  ", "\n\n", " \n "}) {
            String text = "quaternion h - 2 3 ; cyclic c 7 - 2 ; sum s + h - c ;".replace(" ", blank);
            due(text, 3);
            due(blank + text + blank, 3);
            due(blank, Check.fault(blank.length(), 1));
        }
        for (char other : new char[] {0, 9, 11, 12, 13, 31, 33, 160}) {
            due("quaternion" + other + "h 2 3;", Check.fault(10, 1));
        }
        due("quaternion h-2-3;cyclic c7-2;sum s+h-c;", 3);
        due("quater nion h 2 3;", Check.fault(0, 1));
        due("quaternion h i 2 3;", Check.fault(13, 1));
        due("quaternion h 1 1 3;", Check.fault(17, 1));
        due("quaternion h 1 13;", 1);
    }

    // "WORDS (small letters ..), NUMBERS (digits ..), single ones of - + ; (.. all else are no TOKENS)."
    private static void everyByteAtFourPlaces() {
        for (int sign = 0; sign < 256; sign++) {
            boolean blank = sign == 32 || sign == 10;
            boolean letter = sign >= 97 && sign <= 122;
            due("" + (char) sign, Check.fault(blank ? 1 : 0, 1));
            due("quaternion" + (char) sign + "h 2 3;", blank ? 1 : Check.fault(letter ? 0 : 10, 1));
            due("quaternion h" + (char) sign + "2 3;", blank || letter || sign == '-' ? 1 : behindName(sign));
            due("quaternion h 2 3 " + (char) sign, sign == ';' ? 1 : Check.fault(blank ? 18 : 17, 1));
        }
    }

    /** What stands behind the NAME at place 12; a digit makes a NUMBER of two digits with the 2 behind it. */
    private static int behindName(int sign) {
        if (sign < '0' || sign > '9') {
            return Check.fault(12, 1);
        }
        int side = (sign - '0') * 10 + 2;
        return side <= 60 && Check.isSquareFree(side) ? 1 : Check.fault(12, 4);
    }

    // "WORDS (small letters, each that stand together; 1 to 10)", "longer WORDS .. are no TOKENS".
    private static void wordsHaveTenLetters() {
        for (int letters = 1; letters <= 30; letters++) {
            String name = "zaybxcwdveuftgshriqjpkolnm".repeat(2).substring(0, letters);
            boolean fits = letters <= 10;
            due("quaternion " + name + " 2 3;", fits ? 1 : Check.fault(11, 1));
            due(ONE + "sum s +" + name + ";", Check.fault(24, fits ? 3 : 1));
        }
        due("quaterniona h 2 3;", Check.fault(0, 1));
        due("cyclicsumab c 7 2;", Check.fault(0, 1));
        due(EIGHT + "quaterniona", Check.fault(EIGHT.length(), 1));
        due("quaternion abcdefghij 2 3;sum s +abcdefghij;", 2);
        due("quaternion abcdefghij 2 3;sum s +abcdefghijk;", Check.fault(33, 1));
    }

    // "NUMBERS (digits, likewise)": a NUMBER that is too long can't be (kind 4, by a test under ../shared/tests).
    private static void numbersHaveAnyCountOfDigits() {
        for (int digits = 1; digits <= 60; digits++) {
            due("quaternion h " + "1".repeat(digits) + " 1;", digits <= 2 ? 1 : Check.fault(13, 4));
            due("cyclic c 7 " + "9".repeat(digits) + ";", digits <= 3 ? 1 : Check.fault(11, 4));
        }
        due("quaternion h 1 " + "7".repeat(500) + ";", Check.fault(15, 4));
    }

    // "TEXT: LINE { LINE }", "the end: how many bytes there are".
    private static void everyPrefix() {
        String text = "quaternion h -1 2;cyclic c 7 -3;sum s +h-c;";
        int lines = 0;
        for (int n = 0; n <= text.length(); n++) {
            boolean whole = n > 0 && text.charAt(n - 1) == ';';
            lines += whole ? 1 : 0;
            MiddleAlgebras x = new MiddleAlgebras();
            Check.feed(x, text);
            check.due("text(" + n + ") of <" + text + ">", x.text(n), whole ? lines : Check.fault(endOf(text.substring(0, n)), 1));
        }
        for (int blanks = 0; blanks < 40; blanks++) {
            due(" ".repeat(blanks), Check.fault(blanks, 1));
            due("quaternion h 2 3" + "\n".repeat(blanks), Check.fault(16 + blanks, 1));
        }
    }

    /** A WORD at the head of a LINE that is not whole yet is the wrong TOKEN itself; else the end is. */
    private static int endOf(String text) {
        int head = text.lastIndexOf(';') + 1;
        String word = text.substring(head);
        return word.isEmpty() || word.contains(" ") || isLineWord(word) ? text.length() : head;
    }

    private static boolean isLineWord(String word) {
        return word.equals("quaternion") || word.equals("cyclic") || word.equals("sum");
    }

    // "TOKEN with which no TEXT goes on (its first byte ..)".
    private static void everyTokenAtEveryPlace() {
        String[][] places = {{"", "quaternion cyclic sum"}, {"quaternion ", "x a"}, {"quaternion x ", "7 -"}, {"quaternion x -", "7"},
            {"quaternion x 1 ", "7 -"}, {"quaternion x 1 -", "7"}, {"quaternion x 1 1 ", ";"}, {"cyclic ", "x a"}, {"cyclic x ", "7"},
            {"cyclic x 7 ", "7 -"}, {"cyclic x 7 -", "7"}, {"cyclic x 7 1 ", ";"}, {"sum ", "x a"}, {"sum x ", "+ -"},
            {"sum x + ", "x a"}, {"sum x - ", "x a"}, {"sum x +a ", "+ - ;"}, {"sum x +a-a+a-a ", "+ - ;"}};
        String[] tokens = {"quaternion", "cyclic", "sum", "x", "a", "7", "-", "+", ";", "*", "sumsumsumsu"};
        for (String[] place : places) {
            String head = ONE + place[0];
            for (String token : tokens) {
                boolean goesOn = (" " + place[1] + " ").contains(" " + token + " ");
                int got = Check.text(new MiddleAlgebras(), head + token);
                boolean unfit = got == Check.fault(head.length(), 1);
                check.due("kind 1 at <" + token + "> behind <" + head + ">", unfit, !goesOn);
            }
        }
    }

    // "A, B: each -60 to 60, not 0, no square above 1 in it".
    private static void quaternionSides() {
        for (int n = -130; n <= 130; n++) {
            boolean fits = n >= -60 && n <= 60 && Check.isSquareFree(n);
            int sign = n < 0 ? 1 : 0;
            due("quaternion h " + n + " 1;", fits ? 1 : Check.fault(13 + sign, 4));
            due("quaternion h 1 " + n + ";", fits ? 1 : Check.fault(15 + sign, 4));
        }
        due("quaternion h 59 -59;quaternion i -59 59;", 2);
        due("quaternion h 60 1;", Check.fault(13, 4));
        due("quaternion h -61 1;", Check.fault(14, 4));
        due("quaternion h 61 1;", Check.fault(13, 4));
    }

    // "Q: 7, 13, 19, 31, 37 or 43".
    private static void cyclicField() {
        for (int q = 0; q <= 1100; q++) {
            boolean fits = false;
            for (int field : FIELDS) {
                fits = fits || field == q;
            }
            due("cyclic c " + q + " 1;", fits ? 1 : Check.fault(9, 4));
        }
        due("cyclic c -7 1;", Check.fault(9, 1));
    }

    // "B: -999 to 999, not 0".
    private static void cyclicNumber() {
        for (int b = -1030; b <= 1030; b++) {
            boolean fits = b != 0 && b >= -999 && b <= 999;
            due("cyclic c 7 " + b + ";", fits ? 1 : Check.fault(b < 0 ? 12 : 11, 4));
        }
    }

    // "4 a NUMBER that can't be": nor one that would be right modulo 2 to the 8, 16, 31, 32, 63 or 64.
    private static void numbersDoNotWrapAround() {
        for (int bits : new int[] {8, 16, 31, 32, 33, 63, 64, 65, 128}) {
            java.math.BigInteger round = java.math.BigInteger.ONE.shiftLeft(bits);
            for (int n = -2; n <= 2; n++) {
                due("quaternion h " + round.add(java.math.BigInteger.valueOf(n)) + " 1;", Check.fault(13, 4));
                due("quaternion h 1 -" + round.add(java.math.BigInteger.valueOf(n)) + ";", Check.fault(16, 4));
            }
            due("cyclic c " + round.add(java.math.BigInteger.valueOf(7)) + " 1;", Check.fault(9, 4));
            due("cyclic c 13 " + round.shiftLeft(2).add(java.math.BigInteger.TEN) + ";", Check.fault(12, 4));
        }
    }

    // "WHOLE: [ - ] NUMBER.", "4 a NUMBER that can't be (at its first digit, of a WHOLE, too)".
    private static void wholes() {
        due("quaternion h -2 -3;", 1);
        due("quaternion h - 2 -\n3;", 1);
        due("quaternion h +2 3;", Check.fault(13, 1));
        due("quaternion h --2 3;", Check.fault(14, 1));
        due("quaternion h 2- 3;", 1);
        due("quaternion h 2 3-;", Check.fault(16, 1));
        due("quaternion h 0 3;", Check.fault(13, 4));
        due("quaternion h -0 3;", Check.fault(14, 4));
        due("quaternion h -   0 3;", Check.fault(17, 4));
        due("quaternion h 2 -\n\n4;", Check.fault(18, 4));
        due("cyclic c 7 - 1000;", Check.fault(13, 4));
        due("cyclic c 7 - 0;", Check.fault(13, 4));
        due("cyclic c  8 1;", Check.fault(10, 4));
    }

    // "sum NAME SIGN NAME { SIGN NAME } ; (.. 4 at most, the same one more than once, too)", "5 .. a fifth SIGN of a sum".
    private static void sumHasFourTerms() {
        String head = ONE + "sum s ";
        due(head + ";", Check.fault(head.length(), 1));
        for (int terms = 1; terms <= 7; terms++) {
            for (String term : new String[] {"+a", "-a"}) {
                due(head + term.repeat(terms) + ";", terms <= 4 ? 2 : Check.fault(head.length() + 8, 5));
            }
        }
        due(head + "+a+a+a+a", Check.fault(head.length() + 8, 1));
        due(head + "+a+a+a+a+", Check.fault(head.length() + 8, 5));
        due(head + "+a+a+a+a-*", Check.fault(head.length() + 8, 5));
        due(head + "+a+a+a+a  -b", Check.fault(head.length() + 10, 5));
        due(head + "+a-a+a-a;sum t +s+s+s+s;sum u -t-t-t-t-t;", Check.fault(head.length() + 9 + 15 + 14, 5));
        due(head + "+a-a+a-a;sum t +s+s+s+s;sum u -t-t-t-t;", 4);
    }

    // "ALGEBRAS told ahead", "3 a NAME of a sum that is not told ahead".
    private static void namesOfSumsAreToldAhead() {
        due(ONE + "sum s +a;", 2);
        due("sum s +a;" + ONE, Check.fault(7, 3));
        due("sum s +s;", Check.fault(7, 3));
        due(ONE + "sum s +a;sum t +s;", 3);
        due(ONE + "sum t +s;sum s +a;", Check.fault(24, 3));
        due(ONE + "sum s +a-a+a-b;", Check.fault(30, 3));
        due(ONE + "sum s +aa;", Check.fault(24, 3));
        due("quaternion aa 1 1;sum s +a;", Check.fault(25, 3));
        due("quaternion aa 1 1;sum s +ab;", Check.fault(25, 3));
        // A NAME of the TEXT before is not told ahead.
        MiddleAlgebras x = Check.of("quaternion h 2 3;");
        check.due("a NAME of the TEXT before", Check.text(x, "sum s +h;"), Check.fault(7, 3));
        check.due("a NAME of the TEXT before, told anew", Check.text(x, "quaternion h 2 3;"), 1);
        // Nor is one of a TEXT that was refused.
        check.due("refused", Check.text(x, "quaternion u 2 3;;"), Check.fault(17, 1));
        check.due("a NAME of what was refused", Check.text(x, "sum s +u;"), Check.fault(7, 3));
        check.due("a NAME of what was refused, told anew", Check.text(x, "quaternion u 2 3;"), 1);
    }

    // "A NAME is a WORD but quaternion, cyclic, sum".
    private static void namesAreNoKeywords() {
        for (String word : new String[] {"quaternion", "cyclic", "sum"}) {
            due("quaternion " + word + " 2 3;", Check.fault(11, 1));
            due("cyclic " + word + " 7 3;", Check.fault(7, 1));
            due(ONE + "sum " + word + " +a;", Check.fault(21, 1));
            due(ONE + "sum s +" + word + ";", Check.fault(24, 1));
            String less = word.substring(0, word.length() - 1);
            due("quaternion " + less + " 2 3;sum s -" + less + ";", 2);
        }
        due("quaternion suma 2 3;quaternion cyclics 2 3;quaternion asum 2 3;", 3);
        wordsNearKeywords("quaternion", " x 2 3;");
        wordsNearKeywords("cyclic", " x 7 3;");
        wordsNearKeywords("sum", " x +a;");
    }

    /** One letter changed, wherever it stands: a NAME then, and no head of a LINE. */
    private static void wordsNearKeywords(String word, String rest) {
        due(ONE + word + rest, 2);
        for (int at = 0; at < word.length(); at++) {
            for (char letter : new char[] {'a', 'x', 'z'}) {
                String near = word.substring(0, at) + letter + word.substring(at + 1);
                if (!near.equals(word)) {
                    due(ONE + near + rest, Check.fault(ONE.length(), 1));
                    due("quaternion " + near + " 1 1;sum s +" + near + ";", 2);
                }
            }
        }
    }

    // "no two are alike", "2 a NAME given that is there".
    private static void namesAreNotAlike() {
        String[][] pairs = {{"a", "b"}, {"a", "aa"}, {"aa", "a"}, {"abcdefghij", "abcdefghik"}, {"abcdefghij", "bbcdefghij"},
            {"abcdefghij", "abcdefghi"}};
        for (String[] pair : pairs) {
            due("quaternion " + pair[0] + " 2 3;cyclic " + pair[1] + " 7 2;", 2);
            int at = ("quaternion " + pair[0] + " 2 3;cyclic ").length();
            due("quaternion " + pair[0] + " 2 3;cyclic " + pair[0] + " 7 2;", Check.fault(at, 2));
        }
        due(ONE + "sum a +a;", Check.fault(21, 2));
        String seven = EIGHT.substring(0, EIGHT.length() - 17);
        for (char name = 'a'; name <= 'h'; name++) {
            due(seven + "cyclic " + name + " 7 2;", name == 'h' ? 8 : Check.fault(seven.length() + 7, 2));
        }
        // Of a LINE that is not whole the NAME is given all the same.
        due("quaternion a 1 1;quaternion a", Check.fault(28, 2));
    }

    // "ALGEBRAS: 8 at most, numbered as told.", "5 one too many: a LINE at its WORD".
    private static void eightAlgebras() {
        for (int lines = 1; lines <= 8; lines++) {
            due(EIGHT.substring(0, 17 * lines), lines);
        }
        for (String word : new String[] {"quaternion", "cyclic", "sum"}) {
            for (String rest : new String[] {"", " ", " i", " a 1 1;", " i 7 2;", ";", "*"}) {
                due(EIGHT + word + rest, Check.fault(EIGHT.length(), 5));
                due(EIGHT + " \n" + word + rest, Check.fault(EIGHT.length() + 2, 5));
            }
        }
        for (String other : new String[] {"i", "quaternio", "sums", ";", "+", "-", "7", "*"}) {
            due(EIGHT + other, Check.fault(EIGHT.length(), 1));
        }
        MiddleAlgebras x = Check.of("quaternion z 1 1;cyclic y 7 2;sum x +y;quaternion w 1 1;sum v -x;cyclic u 13 2;sum t +u;sum s -t;");
        long[] kinds = {0, 1, 2, 0, 2, 1, 2, 2};
        for (int k = 0; k < 8; k++) {
            check.due("algebra(" + k + ", 0)", x.algebra(k, 0), kinds[k]);
            check.due("algebra(" + k + ", 3)", x.algebra(k, 3), 25 - k);
        }
    }

    // "FAULTS, the one whose place is least".
    private static void leastPlaceCounts() {
        String[] wrong = {"*", "a", "u", "0", "sum"};
        due("quaternion a 1 1;quaternion a 0 0;*", Check.fault(28, 2));
        due("quaternion a 0 1;quaternion a 0 0;*", Check.fault(13, 4));
        due("quaternion a 1 1;sum s +u-0;", Check.fault(24, 3));
        due("quaternion a 1 1;sum a +u;", Check.fault(21, 2));
        due("quaternion a 1 1;sum s +0;", Check.fault(24, 1));
        due("cyclic a 8 0;", Check.fault(9, 4));
        for (String first : wrong) {
            due("quaternion a 1 0;" + first, Check.fault(15, 4));
            due("quaternion * 1 0;" + first, Check.fault(11, 1));
            due("quaternion a 1 1;quaternion a;" + first, Check.fault(28, 2));
            due("sum s +" + (first.equals("a") ? "b" : "u") + ";" + first, Check.fault(7, 3));
            due(EIGHT + "sum " + first, Check.fault(EIGHT.length(), 5));
        }
    }

    // "of one place the first of this list": a TOKEN that is unfit at its place and can't be there for another cause, too.
    private static void firstOfTheListCounts() {
        due("quaternion 61 1;", Check.fault(11, 1));
        due("quaternion a 1 1;quaternion a 1 1 0;", Check.fault(28, 2));
        due("quaternion a 1 1 0;", Check.fault(17, 1));
        due("quaternion a 1 1;sum s 99999999999;", Check.fault(23, 1));
        due("quaternion a 1 1;sum s +sum;", Check.fault(24, 1));
        due("quaternion a 1 1;sum s +uuuuuuuuuuu;", Check.fault(24, 1));
        due(EIGHT + "aaaaaaaaaaa", Check.fault(EIGHT.length(), 1));
        due(EIGHT + "a", Check.fault(EIGHT.length(), 1));
    }

    // "No ALGEBRAS, no ELEMENTS."
    private static void newObject() {
        MiddleAlgebras x = new MiddleAlgebras();
        for (int n = -1; n <= 8; n++) {
            int k = n;
            check.due("local", x.local(k, 2), -1);
            check.due("place", x.place(k, 0), -2);
            check.due("place", x.place(k, -1), -2);
            check.due("index", x.index(k), -1);
            check.due("alike", x.alike(k, k), -1);
            check.due("tell", x.tell(k, k, 0, 0, 0, 0), false);
            check.due("tell", x.tell(0, k, 0, 0, 0, 0), false);
            check.due("over", x.over(k, 1), -1);
            check.due("times", x.times(k, k, 0), -1);
            check.due("plus", x.plus(k, k, 1, 0), -1);
            check.due("mirror", x.mirror(k, 0), -1);
            check.due("inverse", x.inverse(k, 0), -1);
            check.due("solution", x.solution(k, 0), -1);
            check.due("disc", x.disc(k), -1);
            check.due("due", x.due(k), -1);
            check.due("enlarge", x.enlarge(k, 2), -1);
            check.due("greatest", x.greatest(k), -1);
            check.due("plain", x.plain(k), false);
            check.due("isIn", x.isIn(k), -1);
            check.due("ideal", x.ideal(k, -1), -1);
            check.due("isInIdeal", x.isInIdeal(k, -1, k), -1);
            check.due("isTwoSided", x.isTwoSided(k, -1), -1);
            check.due("many", x.many(k, 1), -1);
            check.none("algebra", () -> x.algebra(k, 0));
            check.none("element", () -> x.element(k, 0));
            check.none("norm", () -> x.norm(k, 0));
            check.none("trace", () -> x.trace(k, 0));
            check.none("matrix", () -> x.matrix(k, 0, 0, 0));
            check.none("row", () -> x.row(k, 0, 0));
            check.none("row", () -> x.row(k, 4, 0));
            check.none("table", () -> x.table(k, 0, 0, 0));
        }
        check.due("classes", x.classes(), 0);
        for (int what = 0; what < 3; what++) {
            check.due("count(" + what + ")", x.count(what), 0);
        }
        check.due("the tape of a new object", x.text(1), -1);
        check.due("the tape of a new object", x.text(0), Check.fault(0, 1));
    }

    // "The first n bytes of THE TAPE", "NONE: it has not so many, n is below 0 (THE TAPE stays)".
    private static void firstBytesOfTheTape() {
        for (int n : new int[] {-1, -2, Integer.MIN_VALUE, 21, 22, 600, 601, Integer.MAX_VALUE}) {
            check.refused("text(" + n + ")", -1, x -> x.text(n));
        }
        for (int n : new int[] {0, 16, 17, 18, 20}) {
            check.due("text(" + n + ") of 20", Sample.made().text(n), n < 17 ? Check.fault(n, 1) : 1);
        }
        MiddleAlgebras x = new MiddleAlgebras();
        check.due("text(1) of none", x.text(1), -1);
        check.due("text(0) of none", x.text(0), Check.fault(0, 1));
        for (int often = 0; often < 30; often++) {
            x.feed(0x20202020, 0x20202020, 0x20202020, 0x20202020, 0x20202020);
        }
        check.due("text(601) of 600", x.text(601), -1);
        check.due("text(600) of 600", x.text(600), Check.fault(600, 1));
        check.due("text(600) again", x.text(600), -1);
    }

    // "(it is empty then)": what was behind the n bytes, too, and of a FAULT as of a TEXT.
    private static void tapeIsEmptyThen() {
        for (int n : new int[] {0, 5, 17, 20, 40}) {
            MiddleAlgebras x = Sample.made();
            Check.feed(x, "                    ");
            x.text(n);
            check.due("count(2) behind text(" + n + ")", x.count(2), 0);
            check.due("text(1) behind text(" + n + ")", x.text(1), -1);
            check.due("what comes then is at place 0", Check.text(x, "quaternion h 2 3;"), 1);
        }
    }

    // "-2 less (8 * place + kind): a FAULT (all else stays)."
    private static void textThatIsRefused() {
        String[] faults = {"", "*", "quaternion", "quaternion n 2 3", "quaternion n 2 3;quaternion n 2 3;", "sum n +h;",
            "quaternion n 2 0;", "cyclic n 7 2;quaternion m -1 -3;sum h +n-m;*", EIGHT + "sum"};
        for (String text : faults) {
            MiddleAlgebras x = Sample.withoutTape();
            boolean fault = Check.text(x, text) <= -3;
            check.due("<" + text + "> is a FAULT", fault, true);
            check.same("FAULT of <" + text + ">: all else", Sample.told(x), Sample.TOLD_WITHOUT_TAPE);
        }
    }

    // "how many ALGEBRAS; no ELEMENTS are kept, all ORDERS are as at first".
    private static void textBeginsAnew() {
        MiddleAlgebras x = Sample.made();
        check.due("elements", x.count(1), 191);
        check.due("disc of h", x.disc(0), 2);
        check.due("disc of k", x.disc(1), 28);
        check.due("the same TEXT once more", Check.text(Sample.withoutTape(), Sample.TEXT), 4);
        MiddleAlgebras y = Sample.withoutTape();
        Check.text(y, Sample.TEXT);
        check.due("no elements", y.count(1), 0);
        for (int k = 0; k < 8; k++) {
            int slot = k;
            check.due("isIn(" + k + ")", y.isIn(k), -1);
            check.none("element(" + k + ", 0)", () -> y.element(slot, 0));
        }
        check.due("disc of h", y.disc(0), 4);
        check.due("disc of k", y.disc(1), 56);
        check.due("below the rows of h", y.row(0, 4, 0), 1);
        check.due("below the rows of k", y.row(1, 4, 0), 1);
        // Where a quaternion one was, a cyclic one is, and a quaternion one again.
        Check.text(y, Sample.TEXT);
        y.greatest(0);
        Check.text(y, "cyclic c 7 2;");
        check.due("disc of a cyclic one", y.disc(0), -1);
        check.due("tell of a cyclic one", y.tell(0, 0, 1, 1, 1, 1), false);
        Check.text(y, ONE);
        check.due("disc as at first", y.disc(0), 4);
        check.due("one", y.count(0), 1);
        check.due("index of the second", y.index(1), -1);
        check.due("disc of the second", y.disc(1), -1);
    }

    // "what 0: .., 3: ..; NoSuchElementException: others, none such."
    private static void algebra() {
        long[][] due = {{0, -1, -1, 7}, {0, 7, 2, 10}, {1, 7, 2, 2}, {2, 2, 0, 18}};
        MiddleAlgebras x = Sample.made();
        for (int k = 0; k < 4; k++) {
            int asked = k;
            for (int what = 0; what < 4; what++) {
                check.due("algebra(" + k + ", " + what + ")", x.algebra(k, what), due[k][what]);
            }
            for (int what : new int[] {-1, 4, 5, Integer.MAX_VALUE, Integer.MIN_VALUE}) {
                check.refusedByThrow("algebra(" + k + ", " + what + ")", y -> y.algebra(asked, what));
            }
        }
        for (int k : Sample.NO_ALGEBRAS) {
            for (int what = 0; what < 4; what++) {
                int asked = what;
                check.refusedByThrow("algebra(" + k + ", " + what + ")", y -> y.algebra(k, asked));
            }
        }
        MiddleAlgebras y = Check.of(ONE + "sum s -a;sum t +a-a;sum u +a+a+a;sum v -a-a-a-a;");
        for (int terms = 1; terms <= 4; terms++) {
            check.due("SIGNS", y.algebra(terms, 1), terms);
            check.due("B of a sum", y.algebra(terms, 2), 0);
        }
        MiddleAlgebras z = Check.of("cyclic a 43 -999;cyclic b 7 999;quaternion c -59 59;");
        check.due("least B", z.algebra(0, 2), -999);
        check.due("greatest Q", z.algebra(0, 1), 43);
        check.due("greatest B", z.algebra(1, 2), 999);
        check.due("least A", z.algebra(2, 1), -59);
        check.due("greatest B of a quaternion one", z.algebra(2, 2), 59);
    }

    // "the first letter of its NAME (a 0, .. z 25)".
    private static void letters() {
        for (char letter = 'a'; letter <= 'z'; letter++) {
            String rest = letter == 'z' ? "abcdefghi" : "z";
            check.due("letter " + letter, Check.of("quaternion " + letter + " 2 3;").algebra(0, 3), letter - 'a');
            check.due("first letter " + letter, Check.of("quaternion " + letter + rest + " 2 3;").algebra(0, 3), letter - 'a');
        }
    }

    // "What 0: ALGEBRAS, 1: ELEMENTS kept, as bits, 2: bytes on THE TAPE. NONE for another what."
    private static void count() {
        for (int what : new int[] {-1, -2, 3, 4, Integer.MAX_VALUE, Integer.MIN_VALUE}) {
            check.refused("count(" + what + ")", -1, x -> x.count(what));
        }
        MiddleAlgebras x = Check.of(EIGHT);
        check.due("ALGEBRAS", x.count(0), 8);
        int bits = 0;
        for (int k : new int[] {7, 0, 3, 3, 1, 2, 4, 6, 5}) {
            check.due("no bits yet", x.count(1), bits);
            x.tell(k, k, 0, 0, 0, 0);
            bits |= 1 << k;
            check.due("bits", x.count(1), bits);
        }
        check.due("all bits", x.count(1), 255);
        check.due("no bytes", x.count(2), 0);
        x.feed(0, 0, 0, 0, 0);
        check.due("bytes", x.count(2), 20);
        check.due("ALGEBRAS of a new object", new MiddleAlgebras().count(0), 0);
    }

    // "An object is used for at most 512 calls": the last of them answers as the first does.
    private static void lastCall() {
        for (int which = 0; which < 4; which++) {
            MiddleAlgebras x = new MiddleAlgebras();
            x.feed(0x71756174, 0x65726e69, 0x6f6e2068, 0x202d3120, 0x2d313b20);
            x.text(20);
            for (int call = 3; call <= 509; call += 2) {
                check.due("calls no. " + call + " and the next", x.plain(0) ? x.greatest(0) : -1, 1);
            }
            check.due("call no. 511", x.classes(), 1);
            long last = which == 0 ? x.many(0, 12) : which == 1 ? x.disc(0) : which == 2 ? x.feed(0, 0, 0, 0, 0) : x.local(0, 2);
            check.due("call no. 512", last, new long[] {96, 2, 20, 3}[which]);
        }
    }

    /** What a new object answers to the text. */
    private static void due(String text, long want) {
        check.due("text <" + text + ">", Check.text(new MiddleAlgebras(), text), want);
    }
}
