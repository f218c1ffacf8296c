import java.util.NoSuchElementException;

/** Quaternion and cyclic algebras over fractions; the promises named here are those of the document. */
public final class MiddleAlgebras {
    public static final int NONE = -1;

    private static final int REFUSED = -3;
    private static final int QUATERNION = 0;
    private static final int CYCLIC = 1;
    private static final int SUM = 2;
    private static final int MOST_ALGEBRAS = 8;
    private static final int MOST_ELEMENTS = 8;
    private static final int MOST_BYTES = 600;
    private static final int MOST_NUMBER = 1000000;
    private static final int MOST_FACTOR = 1000;
    private static final int LAST_PLACE = 60000;
    private static final int LAST_PRIME = 60;
    private static final int MOST_IDEAL_NUMBER = 100;
    private static final int MOST_NORM = 12;

    private final byte[] tape = new byte[MOST_BYTES];
    private int tapeSize = 0;
    private final Reader reader = new Reader();
    private Book book = new Book();
    // A TEXT is read into the spare one, so that a FAULT leaves all else as it is.
    private Book spareBook = new Book();
    private final Places places = new Places();
    private final Element[] elements = new Element[MOST_ELEMENTS];
    private final Order[] orders = new Order[MOST_ALGEBRAS];
    private final Enlarger enlarger = new Enlarger();
    private final Splitting splitting = new Splitting();
    private final LeftIdeal leftIdeal = new LeftIdeal();
    private final long[] result = new long[4];

    public MiddleAlgebras() {
        for (int k = 0; k < MOST_ELEMENTS; k++) {
            elements[k] = new Element();
        }
        for (int k = 0; k < MOST_ALGEBRAS; k++) {
            orders[k] = new Order();
        }
    }

    // ---- tape and text

    public int feed(int a, int b, int c, int d, int e) {
        if (tapeSize + 20 > MOST_BYTES) {
            return NONE;
        }
        putBytes(a);
        putBytes(b);
        putBytes(c);
        putBytes(d);
        putBytes(e);
        return tapeSize;
    }

    private void putBytes(int number) {
        for (int shift = 24; shift >= 0 && tapeSize < MOST_BYTES; shift -= 8) {
            tape[tapeSize] = (byte) (number >> shift);
            tapeSize++;
        }
    }

    public int text(int n) {
        if (n < 0 || n > tapeSize) {
            return NONE;
        }
        int fault = reader.readText(tape, n, spareBook);
        tapeSize = 0;
        if (fault != 0) {
            return -2 - fault;
        }
        Book former = book;
        book = spareBook;
        spareBook = former;
        beginAnew();
        return book.size();
    }

    private void beginAnew() {
        places.reckon(book);
        for (int k = 0; k < MOST_ELEMENTS; k++) {
            elements[k].drop();
        }
        for (int k = 0; k < MOST_ALGEBRAS; k++) {
            if (isQuaternion(k)) {
                orders[k].begin(book.first(k), book.second(k));
            }
        }
    }

    public int algebra(int algebra, int what) throws NoSuchElementException {
        if (!isTold(algebra) || what < 0 || what > 3) {
            throw new NoSuchElementException();
        }
        switch (what) {
            case 0:
                return book.kind(algebra);
            case 1:
                return book.first(algebra);
            case 2:
                return book.second(algebra);
            default:
                return book.letter(algebra);
        }
    }

    private boolean isTold(int algebra) {
        return algebra >= 0 && algebra < book.size();
    }

    private boolean isQuaternion(int algebra) {
        return isTold(algebra) && book.kind(algebra) == QUATERNION;
    }

    // ---- places

    public int local(int algebra, int place) {
        if (!isTold(algebra) || place > LAST_PLACE) {
            return NONE;
        }
        if (place != 0 && !Numbers.isPrime(place)) {
            return NONE;
        }
        return places.sixthsAt(algebra, place);
    }

    public int place(int algebra, int k) {
        if (!isTold(algebra) || k < NONE) {
            return -2;
        }
        return k == NONE ? places.howMany(algebra) : places.placeOf(algebra, k);
    }

    public int index(int algebra) {
        return isTold(algebra) ? places.indexOf(algebra) : NONE;
    }

    public int alike(int algebra, int other) {
        if (!isTold(algebra) || !isTold(other)) {
            return NONE;
        }
        return places.areAlike(algebra, other) ? 1 : 0;
    }

    public int classes() {
        int found = 0;
        for (int algebra = 0; algebra < book.size(); algebra++) {
            boolean fresh = true;
            for (int other = 0; other < algebra && fresh; other++) {
                fresh = !places.areAlike(algebra, other);
            }
            found += fresh ? 1 : 0;
        }
        return found;
    }

    // ---- elements

    public boolean tell(int k, int algebra, int a, int b, int c, int d) {
        if (!isSlot(k) || !isQuaternion(algebra)) {
            return false;
        }
        result[0] = a;
        result[1] = b;
        result[2] = c;
        result[3] = d;
        return keep(k, algebra, 1) == 0;
    }

    public int over(int k, int n) {
        if (!isKept(k) || n < 1 || n > MOST_FACTOR) {
            return NONE;
        }
        Element one = elements[k];
        for (int i = 0; i < 4; i++) {
            result[i] = one.numbers[i];
        }
        return keep(k, one.owner, one.below * n);
    }

    public int element(int k, int what) throws NoSuchElementException {
        if (!isKept(k) || what < 0 || what > 5) {
            throw new NoSuchElementException();
        }
        Element one = elements[k];
        if (what == 5) {
            return one.owner;
        }
        return (int) (what == 4 ? one.below : one.numbers[what]);
    }

    public int times(int k, int other, int to) {
        if (!isPair(k, other) || !isSlot(to)) {
            return NONE;
        }
        Element one = elements[k];
        Element two = elements[other];
        int owner = one.owner;
        Element.multiply(book.first(owner), book.second(owner), one.numbers, two.numbers, result);
        return keep(to, owner, one.below * two.below);
    }

    public int plus(int k, int other, int m, int to) {
        if (!isPair(k, other) || !isSlot(to) || m < -MOST_FACTOR || m > MOST_FACTOR) {
            return NONE;
        }
        Element one = elements[k];
        Element two = elements[other];
        for (int i = 0; i < 4; i++) {
            result[i] = one.numbers[i] * two.below + m * two.numbers[i] * one.below;
        }
        return keep(to, one.owner, one.below * two.below);
    }

    public int mirror(int k, int to) {
        if (!isKept(k) || !isSlot(to)) {
            return NONE;
        }
        Element one = elements[k];
        Element.reflect(one.numbers, 1, result);
        return keep(to, one.owner, one.below);
    }

    public int inverse(int k, int to) {
        if (!isKept(k) || !isSlot(to)) {
            return NONE;
        }
        Element one = elements[k];
        long form = formOf(one);
        if (form == 0) {
            return -2;
        }
        Element.reflect(one.numbers, form < 0 ? -one.below : one.below, result);
        return keep(to, one.owner, Math.abs(form));
    }

    public long norm(int k, int what) throws NoSuchElementException {
        if (!isKept(k) || what < 0 || what > 1) {
            throw new NoSuchElementException();
        }
        Element one = elements[k];
        return Numbers.lowest(formOf(one), one.below * one.below, what);
    }

    public long trace(int k, int what) throws NoSuchElementException {
        if (!isKept(k) || what < 0 || what > 1) {
            throw new NoSuchElementException();
        }
        Element one = elements[k];
        return Numbers.lowest(2 * one.numbers[0], one.below, what);
    }

    private boolean isSlot(int k) {
        return k >= 0 && k < MOST_ELEMENTS;
    }

    private boolean isKept(int k) {
        return isSlot(k) && elements[k].isThere();
    }

    private boolean isPair(int k, int other) {
        return isKept(k) && isKept(other) && elements[k].owner == elements[other].owner;
    }

    /** What stands in result, over below: 0, or -3 if it is too great to be kept. */
    private int keep(int to, int algebra, long below) {
        return elements[to].take(algebra, result, below) ? 0 : REFUSED;
    }

    private long formOf(Element one) {
        return Element.form(book.first(one.owner), book.second(one.owner), one.numbers);
    }

    // ---- splitting

    public int solution(int algebra, int what) {
        if (!isQuaternion(algebra) || what < 0 || what > 2) {
            return NONE;
        }
        if (!isSplit(algebra)) {
            return -2;
        }
        return splitting.part(what);
    }

    public long matrix(int k, int row, int column, int what) throws NoSuchElementException {
        if (!isKept(k) || row < 0 || row > 1 || column < 0 || column > 1) {
            throw new NoSuchElementException();
        }
        Element one = elements[k];
        if (what < 0 || what > 1 || !isSplit(one.owner)) {
            throw new NoSuchElementException();
        }
        long above = splitting.entry(one.numbers, row, column);
        return Numbers.lowest(above, one.below * splitting.below(), what);
    }

    private boolean isSplit(int algebra) {
        return places.indexOf(algebra) == 1 && splitting.solve(book.first(algebra), book.second(algebra));
    }

    // ---- orders

    public int disc(int algebra) {
        return isQuaternion(algebra) ? (int) orders[algebra].discriminant() : NONE;
    }

    public int due(int algebra) {
        return isQuaternion(algebra) ? (int) places.product(algebra) : NONE;
    }

    public int row(int algebra, int r, int c) throws NoSuchElementException {
        if (!isQuaternion(algebra) || r < 0 || r > 4) {
            throw new NoSuchElementException();
        }
        if (r == 4) {
            return (int) orders[algebra].below();
        }
        if (c < 0 || c > 3) {
            throw new NoSuchElementException();
        }
        return (int) orders[algebra].numbersOf(r)[c];
    }

    public int enlarge(int algebra, int p) {
        if (!isQuaternion(algebra) || p > LAST_PRIME || !Numbers.isPrime(p)) {
            return NONE;
        }
        return canGrow(algebra, p) ? (int) enlarger.grow(orders[algebra], p) : 0;
    }

    public int greatest(int algebra) {
        if (!isQuaternion(algebra)) {
            return NONE;
        }
        int steps = 0;
        for (int p = 2; p <= LAST_PRIME; p++) {
            boolean more = Numbers.isPrime(p);
            // Each step halves the DISC at least, so that some few of one prime are enough.
            for (int often = 0; often < 40 && more && canGrow(algebra, p); often++) {
                more = enlarger.grow(orders[algebra], p) > 0;
                steps += more ? 1 : 0;
            }
        }
        return steps;
    }

    private boolean canGrow(int algebra, int p) {
        long disc = orders[algebra].discriminant();
        return Numbers.howOften(p, disc) > Numbers.howOften(p, places.product(algebra));
    }

    public boolean plain(int algebra) {
        if (!isQuaternion(algebra)) {
            return false;
        }
        orders[algebra].begin(book.first(algebra), book.second(algebra));
        return true;
    }

    public int table(int algebra, int r, int s, int t) throws NoSuchElementException {
        if (!isQuaternion(algebra) || r < 0 || r > 3 || s < 0 || s > 3 || t < 0 || t > 3) {
            throw new NoSuchElementException();
        }
        Order order = orders[algebra];
        order.expressProduct(order.numbersOf(r), order.numbersOf(s), order.below(), result);
        return (int) result[t];
    }

    public int isIn(int k) {
        if (!isKept(k)) {
            return NONE;
        }
        return isInOrder(k) ? 1 : 0;
    }

    private boolean isInOrder(int k) {
        return orders[elements[k].owner].express(elements[k], result);
    }

    // ---- left ideals

    public long ideal(int k, int other) {
        int fault = idealFault(k, other);
        if (fault != 0) {
            return fault;
        }
        makeIdeal(k, other);
        return leftIdeal.lots();
    }

    public int isInIdeal(int k, int other, int asked) {
        if (!isIdealPair(k, other) || !isPair(k, asked)) {
            return NONE;
        }
        int fault = idealFault(k, other);
        if (fault != 0) {
            return fault;
        }
        makeIdeal(k, other);
        return leftIdeal.contains(elements[asked]) ? 1 : 0;
    }

    public int isTwoSided(int k, int other) {
        int fault = idealFault(k, other);
        if (fault != 0) {
            return fault;
        }
        makeIdeal(k, other);
        boolean both = leftIdeal.takesRight(elements[k]);
        if (both && other != NONE) {
            both = leftIdeal.takesRight(elements[other]);
        }
        return both ? 1 : 0;
    }

    private boolean isIdealPair(int k, int other) {
        return other == NONE ? isKept(k) : isPair(k, other);
    }

    private int idealFault(int k, int other) {
        if (!isIdealPair(k, other)) {
            return NONE;
        }
        if (!isInOrder(k) || (other != NONE && !isInOrder(other))) {
            return -2;
        }
        boolean small = elements[k].isWithin(MOST_IDEAL_NUMBER)
                && (other == NONE || elements[other].isWithin(MOST_IDEAL_NUMBER));
        return small && formOf(elements[k]) != 0 ? 0 : REFUSED;
    }

    private void makeIdeal(int k, int other) {
        leftIdeal.begin(orders[elements[k].owner], elements[k]);
        leftIdeal.join(elements[k]);
        if (other != NONE) {
            leftIdeal.join(elements[other]);
        }
    }

    public int many(int algebra, int n) {
        if (!isQuaternion(algebra) || n < 0 || n > MOST_NORM) {
            return NONE;
        }
        if (book.first(algebra) >= 0 || book.second(algebra) >= 0) {
            return NONE;
        }
        return orders[algebra].countOfNorm(n);
    }

    public int count(int what) {
        switch (what) {
            case 0:
                return book.size();
            case 1:
                return keptBits();
            case 2:
                return tapeSize;
            default:
                return NONE;
        }
    }

    private int keptBits() {
        int bits = 0;
        for (int k = 0; k < MOST_ELEMENTS; k++) {
            bits |= elements[k].isThere() ? 1 << k : 0;
        }
        return bits;
    }

    /** Whole numbers. No division here is by 0: what would be is answered by 0. */
    private static final class Numbers {
        static long greatestDivisor(long a, long b) {
            long high = Math.abs(a);
            long low = Math.abs(b);
            for (int step = 0; step < 200 && low != 0; step++) {
                long rest = high % low;
                high = low;
                low = rest;
            }
            return high;
        }

        static long quotient(long top, long below) {
            return below == 0 ? 0 : Math.floorDiv(top, below);
        }

        static long rest(long top, long below) {
            return below == 0 ? 0 : Math.floorMod(top, below);
        }

        static boolean divides(long below, long top) {
            return below != 0 && top % below == 0;
        }

        /** Of a fraction in lowest terms what is above (what 0) or below (1). */
        static long lowest(long above, long below, int what) {
            return quotient(what == 0 ? above : below, greatestDivisor(above, below));
        }

        static boolean isPrime(int n) {
            if (n < 2 || n > LAST_PLACE) {
                return false;
            }
            for (int by = 2; by * by <= n; by++) {
                if (n % by == 0) {
                    return false;
                }
            }
            return true;
        }

        static boolean isSquareFree(long n) {
            for (int by = 2; by < 8; by++) {
                if (n % (by * by) == 0) {
                    return false;
                }
            }
            return true;
        }

        static int howOften(int p, long n) {
            int often = 0;
            if (p < 2 || n == 0) {
                return 0;
            }
            for (long left = n; often < 64 && left % p == 0; left /= p) {
                often++;
            }
            return often;
        }

        static boolean isSquareModulo(long n, int p) {
            long wanted = rest(n, p);
            for (long root = 0; root < p; root++) {
                if (root * root % p == wanted) {
                    return true;
                }
            }
            return false;
        }

        /** The greatest whole number whose square is n at most; n is below 2 to the 60. */
        static long root(long n) {
            long found = 0;
            for (long bit = 1L << 29; bit > 0; bit >>= 1) {
                long asked = found + bit;
                if (asked * asked <= n) {
                    found = asked;
                }
            }
            return found;
        }
    }

    /** The ALGEBRAS of one TEXT. */
    private static final class Book {
        static final int MOST_LETTERS = 10;
        static final int MOST_TERMS = 4;

        private int size = 0;
        private final int[] kinds = new int[MOST_ALGEBRAS];
        private final int[] firsts = new int[MOST_ALGEBRAS];
        private final int[] seconds = new int[MOST_ALGEBRAS];
        private final int[] lengths = new int[MOST_ALGEBRAS];
        private final byte[][] names = new byte[MOST_ALGEBRAS][MOST_LETTERS];
        private final int[][] terms = new int[MOST_ALGEBRAS][MOST_TERMS];
        private final int[][] signs = new int[MOST_ALGEBRAS][MOST_TERMS];

        int size() {
            return size;
        }

        int kind(int algebra) {
            return kinds[algebra];
        }

        int first(int algebra) {
            return firsts[algebra];
        }

        int second(int algebra) {
            return seconds[algebra];
        }

        int letter(int algebra) {
            return names[algebra][0] - 'a';
        }

        int term(int sum, int t) {
            return terms[sum][t];
        }

        int sign(int sum, int t) {
            return signs[sum][t];
        }

        void clear() {
            size = 0;
        }

        boolean isFull() {
            return size >= MOST_ALGEBRAS;
        }

        /** The next one is begun; it is not told, and not found by its NAME, before finish(). */
        void begin(int kind, Tokens name) {
            if (isFull() || name.length() > MOST_LETTERS) {
                return;
            }
            kinds[size] = kind;
            firsts[size] = 0;
            seconds[size] = 0;
            lengths[size] = name.length();
            for (int i = 0; i < lengths[size]; i++) {
                names[size][i] = name.byteAt(i);
            }
        }

        void setFirst(long number) {
            if (!isFull()) {
                firsts[size] = (int) number;
            }
        }

        void setSecond(long number) {
            if (!isFull()) {
                seconds[size] = (int) number;
            }
        }

        boolean hasAllTerms() {
            return isFull() || firsts[size] >= MOST_TERMS;
        }

        void addTerm(int sign, int algebra) {
            if (!hasAllTerms()) {
                terms[size][firsts[size]] = algebra;
                signs[size][firsts[size]] = sign;
                firsts[size]++;
            }
        }

        void finish() {
            if (!isFull()) {
                size++;
            }
        }

        int find(Tokens name) {
            for (int algebra = 0; algebra < size; algebra++) {
                if (hasName(algebra, name)) {
                    return algebra;
                }
            }
            return NONE;
        }

        private boolean hasName(int algebra, Tokens name) {
            boolean same = lengths[algebra] == name.length();
            for (int i = 0; i < lengths[algebra] && same; i++) {
                same = names[algebra][i] == name.byteAt(i);
            }
            return same;
        }
    }

    /** The TOKENS of a TEXT, one after the other. */
    private static final class Tokens {
        static final int END = 0;
        static final int WORD = 1;
        static final int NUMBER = 2;
        static final int PLUS = 3;
        static final int MINUS = 4;
        static final int STOP = 5;
        static final int BAD = 6;
        // Greater than any number that a TEXT can have; digits without end must not wrap around.
        private static final long GREAT = 1000000L;

        private byte[] bytes = new byte[0];
        private int size = 0;
        private int start = 0;
        private int end = 0;
        private int kind = END;

        void begin(byte[] text, int n) {
            bytes = text;
            size = n < text.length ? n : text.length;
            end = 0;
            step();
        }

        void step() {
            start = end;
            while (start < size && (bytes[start] == 32 || bytes[start] == 10)) {
                start++;
            }
            if (start >= size) {
                kind = END;
                end = start;
                return;
            }
            if (isLetter(start)) {
                takeRun(WORD);
            } else if (isDigit(start)) {
                takeRun(NUMBER);
            } else {
                kind = signKind(bytes[start]);
                end = start + 1;
            }
        }

        private void takeRun(int runKind) {
            end = start + 1;
            while (end < size && (runKind == WORD ? isLetter(end) : isDigit(end))) {
                end++;
            }
            kind = runKind == WORD && end - start > Book.MOST_LETTERS ? BAD : runKind;
        }

        private int signKind(byte sign) {
            switch (sign) {
                case '+':
                    return PLUS;
                case '-':
                    return MINUS;
                case ';':
                    return STOP;
                default:
                    return BAD;
            }
        }

        private boolean isLetter(int at) {
            return bytes[at] >= 'a' && bytes[at] <= 'z';
        }

        private boolean isDigit(int at) {
            return bytes[at] >= '0' && bytes[at] <= '9';
        }

        boolean is(int asked) {
            return kind == asked;
        }

        int start() {
            return start;
        }

        int length() {
            return end - start;
        }

        byte byteAt(int i) {
            return i >= 0 && start + i < end ? bytes[start + i] : 0;
        }

        long value() {
            long value = 0;
            for (int at = start; at < end && kind == NUMBER; at++) {
                value = Math.min(value * 10 + (bytes[at] - '0'), GREAT);
            }
            return value;
        }

        /** The kind of LINE that begins so; NONE for all else. */
        int lineKind() {
            if (isWord("quaternion")) {
                return QUATERNION;
            }
            if (isWord("cyclic")) {
                return CYCLIC;
            }
            return isWord("sum") ? SUM : NONE;
        }

        boolean isName() {
            return kind == WORD && lineKind() == NONE;
        }

        private boolean isWord(String word) {
            boolean same = kind == WORD && word.length() == length();
            for (int i = 0; i < word.length() && same; i++) {
                same = word.charAt(i) == byteAt(i);
            }
            return same;
        }
    }

    /** Reads a TEXT from left to right, so that the first FAULT that it meets is the one whose place is least. */
    private static final class Reader {
        private static final int UNFIT = 1;
        private static final int NAME_THERE = 2;
        private static final int NAME_UNTOLD = 3;
        private static final int NUMBER_UNFIT = 4;
        private static final int ONE_TOO_MANY = 5;
        private static final int MOST_SIDE = 60;
        private static final int MOST_LAST = 999;

        private final Tokens tokens = new Tokens();
        private Book told = new Book();
        private int fault = 0;
        private long whole = 0;

        /** 0, or 8 * place + kind of the FAULT. */
        int readText(byte[] bytes, int n, Book into) {
            told = into;
            told.clear();
            fault = 0;
            tokens.begin(bytes, n);
            boolean more = true;
            for (int line = 0; line <= MOST_ALGEBRAS && more; line++) {
                more = readLine() && !tokens.is(Tokens.END);
            }
            return fault;
        }

        private boolean refuse(int kind) {
            fault = 8 * tokens.start() + kind;
            return false;
        }

        private boolean readLine() {
            int kind = tokens.lineKind();
            if (kind == NONE) {
                return refuse(UNFIT);
            }
            if (told.isFull()) {
                return refuse(ONE_TOO_MANY);
            }
            tokens.step();
            if (!readNewName(kind)) {
                return false;
            }
            if (!(kind == QUATERNION ? readSides() : kind == CYCLIC ? readField() : readTerms())) {
                return false;
            }
            if (!tokens.is(Tokens.STOP)) {
                return refuse(UNFIT);
            }
            tokens.step();
            told.finish();
            return true;
        }

        private boolean readNewName(int kind) {
            if (!tokens.isName()) {
                return refuse(UNFIT);
            }
            if (told.find(tokens) != NONE) {
                return refuse(NAME_THERE);
            }
            told.begin(kind, tokens);
            tokens.step();
            return true;
        }

        private boolean readSides() {
            if (!readWhole(MOST_SIDE, true)) {
                return false;
            }
            told.setFirst(whole);
            if (!readWhole(MOST_SIDE, true)) {
                return false;
            }
            told.setSecond(whole);
            return true;
        }

        private boolean readField() {
            if (!tokens.is(Tokens.NUMBER)) {
                return refuse(UNFIT);
            }
            long field = tokens.value();
            if (!isField(field)) {
                return refuse(NUMBER_UNFIT);
            }
            told.setFirst(field);
            tokens.step();
            if (!readWhole(MOST_LAST, false)) {
                return false;
            }
            told.setSecond(whole);
            return true;
        }

        private boolean isField(long field) {
            return field == 7 || field == 13 || field == 19 || field == 31 || field == 37 || field == 43;
        }

        private boolean readWhole(int most, boolean squareFree) {
            boolean negative = tokens.is(Tokens.MINUS);
            if (negative) {
                tokens.step();
            }
            if (!tokens.is(Tokens.NUMBER)) {
                return refuse(UNFIT);
            }
            long value = tokens.value();
            if (value == 0 || value > most || (squareFree && !Numbers.isSquareFree(value))) {
                return refuse(NUMBER_UNFIT);
            }
            whole = negative ? -value : value;
            tokens.step();
            return true;
        }

        private boolean readTerms() {
            if (!isSign()) {
                return refuse(UNFIT);
            }
            for (int t = 0; t <= Book.MOST_TERMS && isSign(); t++) {
                if (told.hasAllTerms()) {
                    return refuse(ONE_TOO_MANY);
                }
                int sign = tokens.is(Tokens.MINUS) ? -1 : 1;
                tokens.step();
                if (!tokens.isName()) {
                    return refuse(UNFIT);
                }
                int algebra = told.find(tokens);
                if (algebra == NONE) {
                    return refuse(NAME_UNTOLD);
                }
                told.addTerm(sign, algebra);
                tokens.step();
            }
            return true;
        }

        private boolean isSign() {
            return tokens.is(Tokens.PLUS) || tokens.is(Tokens.MINUS);
        }
    }

    /** The LOCAL INDEXES: one list of all PLACES at which any ALGEBRA may have one, and of each ALGEBRA a row by it. */
    private static final class Places {
        // 8 ALGEBRAS bring five PLACES each at most, beside 0 and 2.
        private static final int MOST_PLACES = 64;
        private static final int LAST_DIVISOR = 999;

        private int size = 0;
        private int algebras = 0;
        private final int[] list = new int[MOST_PLACES];
        private final int[][] sixths = new int[MOST_ALGEBRAS][MOST_PLACES];

        void reckon(Book book) {
            size = 0;
            algebras = book.size();
            note(0);
            note(2);
            for (int algebra = 0; algebra < algebras; algebra++) {
                noteAll(book, algebra);
            }
            for (int algebra = 0; algebra < algebras; algebra++) {
                reckonOne(book, algebra);
            }
        }

        private void noteAll(Book book, int algebra) {
            if (book.kind(algebra) == SUM) {
                return;
            }
            if (book.kind(algebra) == CYCLIC) {
                note(book.first(algebra));
            } else {
                noteDivisors(book.first(algebra));
            }
            noteDivisors(book.second(algebra));
        }

        private void noteDivisors(int n) {
            int left = Math.abs(n);
            for (int p = 2; p <= LAST_DIVISOR && left > 1; p++) {
                if (left % p == 0) {
                    note(p);
                }
                for (int often = 0; often < 32 && left % p == 0; often++) {
                    left /= p;
                }
            }
        }

        private void note(int place) {
            int at = 0;
            while (at < size && list[at] < place) {
                at++;
            }
            if (size >= MOST_PLACES || (at < size && list[at] == place)) {
                return;
            }
            for (int i = size; i > at; i--) {
                list[i] = list[i - 1];
            }
            list[at] = place;
            size++;
        }

        private void reckonOne(Book book, int algebra) {
            int a = book.first(algebra);
            int b = book.second(algebra);
            switch (book.kind(algebra)) {
                case QUATERNION:
                    for (int i = 0; i < size; i++) {
                        sixths[algebra][i] = isRamified(a, b, list[i]) ? 3 : 0;
                    }
                    break;
                case CYCLIC:
                    reckonCyclic(algebra, a, b);
                    break;
                default:
                    reckonSum(book, algebra);
                    break;
            }
        }

        private boolean isRamified(int a, int b, int place) {
            if (place == 0) {
                return a < 0 && b < 0;
            }
            int r = Numbers.howOften(place, a);
            int s = Numbers.howOften(place, b);
            long u = r == 1 ? Numbers.quotient(a, place) : a;
            long v = s == 1 ? Numbers.quotient(b, place) : b;
            if (place == 2) {
                long odd = (u - 1) / 2 * ((v - 1) / 2) + r * ((v * v - 1) / 8) + s * ((u * u - 1) / 8);
                return odd % 2 != 0;
            }
            boolean minus = r == 1 && s == 1 && (place - 1) / 2 % 2 == 1;
            if (s == 1 && !Numbers.isSquareModulo(u, place)) {
                minus = !minus;
            }
            if (r == 1 && !Numbers.isSquareModulo(v, place)) {
                minus = !minus;
            }
            return minus;
        }

        private void reckonCyclic(int algebra, int q, int b) {
            int generator = leastGenerator(q);
            int together = 0;
            int own = NONE;
            for (int i = 0; i < size; i++) {
                int p = list[i];
                sixths[algebra][i] = 0;
                if (p == q) {
                    own = i;
                } else if (p > 1) {
                    int often = Numbers.howOften(p, b) * powerThatIs(p, generator, q);
                    sixths[algebra][i] = 2 * (often % 3);
                }
                together += sixths[algebra][i];
            }
            if (own != NONE) {
                sixths[algebra][own] = (int) Numbers.rest(-together, 6);
            }
        }

        private int leastGenerator(int q) {
            for (int g = 2; g < q; g++) {
                if (powerThatIs(1, g, q) == q - 1) {
                    return g;
                }
            }
            return 1;
        }

        /** The least power of g, from the first on, that is n modulo q; 0 if none is. */
        private int powerThatIs(int n, int g, int q) {
            long power = 1;
            for (int k = 1; k < q; k++) {
                power = power * g % q;
                if (power == n % q) {
                    return k;
                }
            }
            return 0;
        }

        private void reckonSum(Book book, int algebra) {
            for (int i = 0; i < size; i++) {
                long together = 0;
                for (int t = 0; t < book.first(algebra) && t < Book.MOST_TERMS; t++) {
                    together += book.sign(algebra, t) * sixths[book.term(algebra, t)][i];
                }
                sixths[algebra][i] = (int) Numbers.rest(together, 6);
            }
        }

        int sixthsAt(int algebra, int place) {
            for (int i = 0; i < size; i++) {
                if (list[i] == place) {
                    return sixths[algebra][i];
                }
            }
            return 0;
        }

        int howMany(int algebra) {
            int found = 0;
            for (int i = 0; i < size; i++) {
                found += sixths[algebra][i] != 0 ? 1 : 0;
            }
            return found;
        }

        /** The k-th PLACE with a LOCAL INDEX that is not 0, or -2. */
        int placeOf(int algebra, int k) {
            int left = k;
            for (int i = 0; i < size; i++) {
                if (sixths[algebra][i] != 0) {
                    if (left == 0) {
                        return list[i];
                    }
                    left--;
                }
            }
            return -2;
        }

        int indexOf(int algebra) {
            long common = 6;
            for (int i = 0; i < size; i++) {
                common = Numbers.greatestDivisor(common, sixths[algebra][i]);
            }
            return (int) Numbers.quotient(6, common);
        }

        boolean areAlike(int algebra, int other) {
            boolean same = true;
            for (int i = 0; i < size && same; i++) {
                same = sixths[algebra][i] == sixths[other][i];
            }
            return same;
        }

        long product(int algebra) {
            long product = 1;
            for (int i = 0; i < size; i++) {
                if (list[i] != 0 && sixths[algebra][i] != 0) {
                    product *= list[i];
                }
            }
            return product;
        }
    }

    /** An ELEMENT that is kept, or none; and what is done with four numbers of 1, i, j, k, i * i = a, j * j = b. */
    private static final class Element {
        private final long[] numbers = new long[4];
        private long below = 1;
        private int owner = NONE;

        boolean isThere() {
            return owner != NONE;
        }

        void drop() {
            owner = NONE;
        }

        /** False, and nothing changes, if one of the five is too great in lowest terms. */
        boolean take(int algebra, long[] fresh, long freshBelow) {
            long common = freshBelow;
            for (int i = 0; i < 4; i++) {
                common = Numbers.greatestDivisor(common, fresh[i]);
            }
            boolean fit = freshBelow > 0 && Numbers.quotient(freshBelow, common) <= MOST_NUMBER;
            for (int i = 0; i < 4 && fit; i++) {
                fit = Math.abs(Numbers.quotient(fresh[i], common)) <= MOST_NUMBER;
            }
            if (!fit) {
                return false;
            }
            for (int i = 0; i < 4; i++) {
                numbers[i] = Numbers.quotient(fresh[i], common);
            }
            below = Numbers.quotient(freshBelow, common);
            owner = algebra;
            return true;
        }

        boolean isWithin(int most) {
            boolean within = below <= most;
            for (int i = 0; i < 4 && within; i++) {
                within = Math.abs(numbers[i]) <= most;
            }
            return within;
        }

        static void multiply(long a, long b, long[] x, long[] y, long[] to) {
            to[0] = x[0] * y[0] + a * x[1] * y[1] + b * x[2] * y[2] - a * b * x[3] * y[3];
            to[1] = x[0] * y[1] + x[1] * y[0] + b * (x[3] * y[2] - x[2] * y[3]);
            to[2] = x[0] * y[2] + x[2] * y[0] + a * (x[1] * y[3] - x[3] * y[1]);
            to[3] = x[0] * y[3] + x[3] * y[0] + x[1] * y[2] - x[2] * y[1];
        }

        static void reflect(long[] x, long factor, long[] to) {
            to[0] = x[0] * factor;
            for (int i = 1; i < 4; i++) {
                to[i] = -x[i] * factor;
            }
        }

        /** The NORM, if the four are over 1. */
        static long form(long a, long b, long[] x) {
            return x[0] * x[0] - a * x[1] * x[1] - b * x[2] * x[2] + a * b * x[3] * x[3];
        }

        /** By how much the form of both together is more than that of the one and that of the other. */
        static long pairing(long a, long b, long[] x, long[] y) {
            return 2 * (x[0] * y[0] - a * x[1] * y[1] - b * x[2] * y[2] + a * b * x[3] * y[3]);
        }
    }

    /** The SOLUTION of an ALGEBRA that SPLITS, and by it the MATRIX of an ELEMENT. */
    private static final class Splitting {
        private static final int MOST = 7;

        private long a = 1;
        private long b = 1;
        private long x = 1;
        private long y = 1;
        private long z = 0;

        boolean solve(long sideA, long sideB) {
            a = sideA;
            b = sideB;
            for (z = 0; z <= MOST; z++) {
                for (y = z == 0 ? 1 : 0; y <= MOST; y++) {
                    long square = a * y * y + b * z * z;
                    x = Numbers.root(square);
                    if (x * x == square) {
                        return true;
                    }
                }
            }
            return false;
        }

        int part(int what) {
            return (int) (what == 0 ? x : what == 1 ? y : z);
        }

        /** What all entries are over, beside what is below the ELEMENT's numbers. */
        long below() {
            return z == 0 ? 1 : z;
        }

        long entry(long[] n, int row, int column) {
            if (z == 0) {
                return plainEntry(n, row, column);
            }
            long one = n[0] * z;
            long side = n[2] * x + n[3] * a * y;
            if (row == column) {
                return row == 0 ? one + side : one - side;
            }
            long corner = n[2] * y + n[3] * x;
            return row == 0 ? a * (n[1] * z - corner) : n[1] * z + corner;
        }

        private long plainEntry(long[] n, int row, int column) {
            if (row == column) {
                return row == 0 ? n[0] + n[1] : n[0] - n[1];
            }
            return row == 0 ? b * (n[2] + n[3]) : n[2] - n[3];
        }
    }

    /**
     * All whole sums of four rows, each with 0 ahead of its own column. It always has "modulus" times each of the four
     * ones: so numbers stay small, taken modulo that, whatever comes in.
     */
    private static final class Lattice {
        private static final int MOST_STEPS = 200;

        private final long[][] rows = new long[4][4];
        private final long[] work = new long[4];
        private long modulus = 1;

        void begin(long whole) {
            modulus = whole;
            for (int r = 0; r < 4; r++) {
                for (int c = 0; c < 4; c++) {
                    rows[r][c] = r == c ? whole : 0;
                }
            }
        }

        /** The other one's rows, each number factor times as great. */
        void copy(Lattice other, long factor) {
            modulus = other.modulus * factor;
            for (int r = 0; r < 4; r++) {
                for (int c = 0; c < 4; c++) {
                    rows[r][c] = other.rows[r][c] * factor;
                }
            }
        }

        long modulus() {
            return modulus;
        }

        long[] numbersOf(int r) {
            return rows[r];
        }

        void add(long[] numbers) {
            for (int c = 0; c < 4; c++) {
                work[c] = Numbers.rest(numbers[c], modulus);
            }
            for (int c = 0; c < 4; c++) {
                long[] row = rows[c];
                for (int step = 0; step < MOST_STEPS && work[c] != 0; step++) {
                    long often = row[c] / work[c];
                    for (int i = c; i < 4; i++) {
                        long rest = row[i] - often * work[i];
                        row[i] = work[i];
                        work[i] = i == c ? rest : Numbers.rest(rest, modulus);
                    }
                }
            }
        }

        /** Brings the rows to the one form that they can have. */
        void settle() {
            for (int r = 2; r >= 0; r--) {
                for (int c = r + 1; c < 4; c++) {
                    long often = Numbers.quotient(rows[r][c], rows[c][c]);
                    for (int i = c; i < 4; i++) {
                        rows[r][i] -= often * rows[c][i];
                    }
                }
            }
        }

        /** All numbers, the modulus too, less by what they have in common. */
        void lower() {
            long common = modulus;
            for (int r = 0; r < 4; r++) {
                for (int c = r; c < 4; c++) {
                    common = Numbers.greatestDivisor(common, rows[r][c]);
                }
            }
            for (int r = 0; r < 4; r++) {
                for (int c = r; c < 4; c++) {
                    rows[r][c] = Numbers.quotient(rows[r][c], common);
                }
            }
            modulus = Numbers.quotient(modulus, common);
        }

        boolean has(long[] numbers) {
            for (int c = 0; c < 4; c++) {
                work[c] = Numbers.rest(numbers[c], modulus);
            }
            return express(work);
        }

        /** How often each row comes in the numbers, which are changed to that; false: they are no whole sum. */
        boolean express(long[] numbers) {
            for (int r = 0; r < 4; r++) {
                if (!Numbers.divides(rows[r][r], numbers[r])) {
                    return false;
                }
                long often = Numbers.quotient(numbers[r], rows[r][r]);
                for (int c = r + 1; c < 4; c++) {
                    numbers[c] -= often * rows[r][c];
                }
                numbers[r] = often;
            }
            return true;
        }

        /** Into how many lots the fours of whole numbers fall by it. */
        long lots() {
            return rows[0][0] * rows[1][1] * rows[2][2] * rows[3][3];
        }

        /** Into how many lots all sums of the rows over the modulus fall by whole numbers; 0 if more than most. */
        long lotsByWhole(long most) {
            long lots = 1;
            for (int r = 0; r < 4; r++) {
                lots *= Numbers.quotient(modulus, rows[r][r]);
                if (lots > most) {
                    return 0;
                }
            }
            return lots;
        }
    }

    /** The ORDER of an ALGEBRA: a lattice whose rows are over its modulus. */
    private static final class Order {
        private long a = 1;
        private long b = 1;
        private final Lattice basis = new Lattice();
        private final long[] point = new long[4];

        void begin(long sideA, long sideB) {
            a = sideA;
            b = sideB;
            basis.begin(1);
        }

        long below() {
            return basis.modulus();
        }

        long[] numbersOf(int r) {
            return basis.numbersOf(r);
        }

        long discriminant() {
            return discriminantOf(basis);
        }

        /** That of 1, i, j, k is 4 * A * B; each lot beyond them makes it as much less. 0: it would be no whole one. */
        long discriminantOf(Lattice set) {
            long most = Math.abs(4 * a * b);
            long lots = set.lotsByWhole(most);
            return Numbers.divides(lots, most) ? Numbers.quotient(most, lots) : 0;
        }

        /** How often each ROW comes in an ELEMENT; false: it is not in the ORDER. */
        boolean express(Element one, long[] to) {
            return expressOver(one.numbers, one.below, to, below());
        }

        /** Likewise of a ROW's numbers times an ELEMENT's, or the other way round, the ELEMENT's over what is told. */
        boolean expressProduct(long[] x, long[] y, long elementBelow, long[] to) {
            Element.multiply(a, b, x, y, point);
            return expressOver(point, elementBelow, to, 1);
        }

        private boolean expressOver(long[] numbers, long divisor, long[] to, long factor) {
            for (int i = 0; i < 4; i++) {
                if (!Numbers.divides(divisor, numbers[i] * factor)) {
                    return false;
                }
                to[i] = Numbers.quotient(numbers[i] * factor, divisor);
            }
            return basis.express(to);
        }

        /** Both sides are below 0 here, so that the NORM is a sum of four squares with factors above 0. */
        int countOfNorm(int n) {
            long left = n * below() * below();
            long step = numbersOf(0)[0];
            int found = 0;
            if (step <= 0) {
                return 0;
            }
            long most = Numbers.quotient(Numbers.root(left), step);
            for (long often = -most; often <= most; often++) {
                for (int c = 0; c < 4; c++) {
                    point[c] = often * numbersOf(0)[c];
                }
                found += countSecond(left - point[0] * point[0]);
            }
            return found;
        }

        private int countSecond(long left) {
            int found = 0;
            long step = numbersOf(1)[1];
            long most = Numbers.root(Numbers.quotient(left, -a));
            for (long at = leastFrom(-most, point[1], step); at <= most && step > 0; at += step) {
                long often = Numbers.quotient(at - point[1], step);
                long third = point[2] + often * numbersOf(1)[2];
                long fourth = point[3] + often * numbersOf(1)[3];
                found += countThird(left + a * at * at, third, fourth);
            }
            return found;
        }

        private int countThird(long left, long third, long fourth) {
            int found = 0;
            long step = numbersOf(2)[2];
            long most = Numbers.root(Numbers.quotient(left, -b));
            for (long at = leastFrom(-most, third, step); at <= most && step > 0; at += step) {
                long often = Numbers.quotient(at - third, step);
                found += countFourth(left + b * at * at, fourth + often * numbersOf(2)[3]);
            }
            return found;
        }

        private int countFourth(long left, long fourth) {
            if (!Numbers.divides(a * b, left)) {
                return 0;
            }
            long square = Numbers.quotient(left, a * b);
            long root = Numbers.root(square);
            if (root * root != square) {
                return 0;
            }
            long step = numbersOf(3)[3];
            int found = Numbers.divides(step, root - fourth) ? 1 : 0;
            return root != 0 && Numbers.divides(step, -root - fourth) ? found + 1 : found;
        }

        /** The least number from low on that is like the told one modulo step. */
        private long leastFrom(long low, long like, long step) {
            return low + Numbers.rest(like - low, step);
        }
    }

    /** Makes ORDERS greater. */
    private static final class Enlarger {
        // Each round makes the set at least twice as great, and a DISC is 14400 at most.
        private static final int MOST_ROUNDS = 40;

        private Order order = new Order();
        private int prime = 2;
        private long over = 1;
        private Lattice trial = new Lattice();
        private Lattice next = new Lattice();
        // sums[r]: the ROWS ahead of r times their numbers, together.
        private final long[][] sums = new long[5][4];
        private final long[] product = new long[4];

        /** Into how many lots the new ORDER falls by the former one; 0: no ELEMENT makes it greater. */
        long grow(Order asked, int p) {
            order = asked;
            prime = p;
            over = order.below() * p;
            for (int c0 = 0; c0 < p; c0++) {
                if (!goesOn(0, c0)) {
                    continue;
                }
                for (int c1 = 0; c1 < p; c1++) {
                    if (!goesOn(1, c1)) {
                        continue;
                    }
                    for (int c2 = 0; c2 < p; c2++) {
                        if (!goesOn(2, c2)) {
                            continue;
                        }
                        for (int c3 = 0; c3 < p; c3++) {
                            if (goesOn(3, c3) && isFit()) {
                                return takeTrial();
                            }
                        }
                    }
                }
            }
            return 0;
        }

        private long takeTrial() {
            long former = order.discriminant();
            order.basis.copy(trial, 1);
            return Numbers.quotient(former, order.discriminant());
        }

        /**
         * Number r of the sum is final with ROW r's times. The set has also the sum times 1, i, j or k, whose TRACE
         * comes of that number alone: if it is not whole, no later ROW mends it.
         */
        private boolean goesOn(int r, int times) {
            long[] row = order.numbersOf(r);
            for (int i = 0; i < 4; i++) {
                sums[r + 1][i] = sums[r][i] + times * row[i];
            }
            long square = r == 0 ? 1 : r == 1 ? order.a : r == 2 ? order.b : order.a * order.b;
            return Numbers.divides(over, 2 * square * sums[r + 1][r]);
        }

        private boolean isFit() {
            long[] sum = sums[4];
            if (sum[0] == 0 && sum[1] == 0 && sum[2] == 0 && sum[3] == 0) {
                return false;
            }
            if (!Numbers.divides(over * over, Element.form(order.a, order.b, sum))) {
                return false;
            }
            trial.copy(order.basis, prime);
            trial.add(sum);
            trial.settle();
            trial.lower();
            return isClosedWhole();
        }

        /** Makes the trial set the least one that has all products, as long as all TRACES and NORMS are whole in it. */
        private boolean isClosedWhole() {
            for (int round = 0; round < MOST_ROUNDS; round++) {
                long disc = order.discriminantOf(trial);
                if (disc == 0 || !isWhole()) {
                    return false;
                }
                multiplyTrial();
                if (order.discriminantOf(next) == disc) {
                    return true;
                }
                Lattice former = trial;
                trial = next;
                next = former;
            }
            return false;
        }

        private void multiplyTrial() {
            next.copy(trial, trial.modulus());
            for (int r = 0; r < 4; r++) {
                for (int s = 0; s < 4; s++) {
                    Element.multiply(order.a, order.b, trial.numbersOf(r), trial.numbersOf(s), product);
                    next.add(product);
                }
            }
            next.settle();
            next.lower();
        }

        private boolean isWhole() {
            long square = trial.modulus() * trial.modulus();
            boolean whole = true;
            for (int r = 0; r < 4 && whole; r++) {
                long[] one = trial.numbersOf(r);
                whole = Numbers.divides(trial.modulus(), 2 * one[0])
                        && Numbers.divides(square, Element.form(order.a, order.b, one));
                for (int s = 0; s < r && whole; s++) {
                    whole = Numbers.divides(square, Element.pairing(order.a, order.b, one, trial.numbersOf(s)));
                }
            }
            return whole;
        }
    }

    /** A LEFT IDEAL: a lattice whose rows tell how often each ROW of the ORDER comes in. */
    private static final class LeftIdeal {
        private Order order = new Order();
        private final Lattice lattice = new Lattice();
        private final long[] point = new long[4];

        /** The NORM of the first one is not 0; the set has that many times each ROW, for its MIRROR is in the ORDER. */
        void begin(Order home, Element first) {
            order = home;
            long form = Element.form(order.a, order.b, first.numbers);
            lattice.begin(Math.abs(Numbers.quotient(form, first.below * first.below)));
        }

        void join(Element one) {
            for (int r = 0; r < 4; r++) {
                if (order.expressProduct(order.numbersOf(r), one.numbers, one.below, point)) {
                    lattice.add(point);
                }
            }
            lattice.settle();
        }

        long lots() {
            return lattice.lots();
        }

        boolean contains(Element one) {
            return order.express(one, point) && lattice.has(point);
        }

        /** Also all of the set: it is whole sums of the ORDER's ELEMENTS times those that made it. */
        boolean takesRight(Element maker) {
            boolean all = true;
            for (int r = 0; r < 4 && all; r++) {
                all = order.expressProduct(maker.numbers, order.numbersOf(r), maker.below, point)
                        && lattice.has(point);
            }
            return all;
        }
    }
}
