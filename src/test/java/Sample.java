/**
 * An object that has something of every kind, and all that it answers told in one text: so that one comparison shows
 * whether a refused call left everything else as it was. Both together stay under the document's 512 calls.
 */
final class Sample {
    static final String TEXT = "quaternion h -1 -1;quaternion k 7 2;cyclic c 7 2;sum s +h-c;";
    /** What lies on the tape: its first 17 bytes are a TEXT, so that a tape that has changed shows. */
    static final String TAPE = "cyclic z 43 -999;   ";
    static final int H = 0;
    static final int K = 1;
    static final int CYCLIC = 2;
    static final int SUM = 3;
    /** Numbers that no ALGEBRA has. */
    static final int[] NO_ALGEBRAS = {4, 8, -1, Integer.MAX_VALUE, Integer.MIN_VALUE};
    static final int[] NO_QUATERNIONS = {CYCLIC, SUM, 4, 8, -1, Integer.MAX_VALUE, Integer.MIN_VALUE};
    /** Of H: half of 1 + i + j + k, in the ORDER; 1 + i; a great one; one beyond 100. Of K: one of NORM 0; two more. */
    static final int HALF = 0;
    static final int SMALL = 1;
    static final int NORM_NOUGHT = 2;
    static final int THIRD = 3;
    static final int GREAT = 4;
    static final int MILLIONTH = 5;
    static final int EMPTY = 6;
    static final int BEYOND = 7;
    /** Numbers under which no ELEMENT is kept: the first could have one, the others could not. */
    static final int[] NOT_KEPT = {EMPTY, 8, -1, -2, Integer.MAX_VALUE, Integer.MIN_VALUE};
    static final int[] NO_SLOTS = {8, 9, -1, -2, Integer.MAX_VALUE, Integer.MIN_VALUE};
    static final String TOLD = told(made());
    static final String TOLD_WITHOUT_TAPE = told(withoutTape());

    private Sample() {
    }

    static MiddleAlgebras made() {
        MiddleAlgebras x = withoutTape();
        Check.feed(x, TAPE);
        return x;
    }

    static MiddleAlgebras withoutTape() {
        MiddleAlgebras x = Check.of(TEXT);
        x.tell(HALF, H, 1, 1, 1, 1);
        x.over(HALF, 2);
        x.tell(SMALL, H, 1, 1, 0, 0);
        x.tell(NORM_NOUGHT, K, 3, 1, 1, 0);
        x.tell(THIRD, K, 1, 2, 0, 0);
        x.over(THIRD, 3);
        x.tell(GREAT, H, 1000000, -1000000, 1, 0);
        x.tell(MILLIONTH, K, 1, 0, 0, 0);
        x.over(MILLIONTH, 1000);
        x.over(MILLIONTH, 1000);
        x.tell(BEYOND, H, 1, 101, 0, 0);
        x.greatest(H);
        x.enlarge(K, 2);
        return x;
    }

    static String told(MiddleAlgebras x) {
        StringBuilder made = new StringBuilder();
        for (int what = 0; what < 3; what++) {
            made.append("count ").append(x.count(what)).append('\n');
        }
        made.append("classes ").append(x.classes()).append('\n');
        for (int algebra = 0; algebra < x.count(0); algebra++) {
            tellAlgebra(x, algebra, made);
        }
        int kept = x.count(1);
        for (int k = 0; k < 8; k++) {
            if ((kept >> k & 1) == 1) {
                tellElement(x, k, made);
            }
        }
        made.append("text ").append(x.text(17));
        for (int what = 0; what < 4; what++) {
            made.append(' ').append(x.algebra(0, what));
        }
        return made.toString();
    }

    private static void tellAlgebra(MiddleAlgebras x, int algebra, StringBuilder made) {
        made.append("algebra ").append(algebra);
        for (int what = 0; what < 4; what++) {
            made.append(' ').append(x.algebra(algebra, what));
        }
        made.append(" index ").append(x.index(algebra)).append(" places");
        for (int k = -1; k < 4; k++) {
            made.append(' ').append(x.place(algebra, k));
        }
        int[] places = {0, 2, 3, 7};
        for (int place : places) {
            made.append(' ').append(x.local(algebra, place));
        }
        made.append(" disc ").append(x.disc(algebra)).append(" due ").append(x.due(algebra)).append(" rows");
        for (int at = 0; at < 17 && x.disc(algebra) > 0; at++) {
            made.append(' ').append(x.row(algebra, at / 4, at % 4));
        }
        made.append('\n');
    }

    private static void tellElement(MiddleAlgebras x, int k, StringBuilder made) {
        made.append("element ").append(k);
        for (int what = 0; what < 6; what++) {
            made.append(' ').append(x.element(k, what));
        }
        made.append('\n');
    }
}
