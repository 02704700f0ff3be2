import java.util.Arrays;

/** Lines in the plane told by shares of polynomials of one letter, after ../shared/DOC.md. */
public final class BentShares {
    public static final int BAD = -1, NOT = -2, FULL = -3, NONE = -4, NULL = -11, CAST = -12, INDEX = -13, SIZE = -14;

    private static final int FINE = 0;
    private static final int LINES = 4;
    private static final int SHEETS = 4;
    private static final int LANES = 3;
    private static final int POINT = 0, STRAIGHT = 1, CONIC = 2, CUBIC = 3;

    /** Shares lie in one row: X, Y, W, of each the numbers of t to the powers 0 .. 3. */
    private static final int ALL = 12, EACH = 4, SHARE_W = 2;
    private static final int WIDEST_ITEM = 1000;

    /** What refusals are lowered by, so that they are no number that a call may answer. */
    private static final int THOUSAND = 1000;
    private static final long TRILLION = 1000000000000L;
    private static final long QUADRILLION = 1000000000000000L;

    private final Tape tape = new Tape();
    private final Line[] lines = new Line[LINES];
    private final Row[] rows = new Row[SHEETS];
    private final Plain plain = new Plain();
    private final Study study = new Study();

    /** A LINE is made here first, so that a refusal leaves the old one as it was. */
    private final long[] shares = new long[ALL];
    private final long[] polynomial = new long[EACH];
    private final long[] straight = new long[3];

    public BentShares() {
        for (int i = 0; i < LINES; i++) {
            lines[i] = new Line();
        }
        for (int i = 0; i < SHEETS; i++) {
            rows[i] = new Row();
        }
    }

    // ---- 1 lines

    public int type(long w, int n) {
        if (!within(n, 1, 8) || !Tape.isText(w, n)) {
            return BAD;
        }
        return tape.append(w, n) ? tape.length : FULL;
    }

    public int line(int line) {
        if (!isLine(line)) {
            return BAD;
        }
        boolean read = tape.read(shares);
        int fault = -20 - tape.place;
        tape.length = 0;
        if (!read) {
            return fault;
        }
        return plain.make(shares) ? settle(line) : NOT;
    }

    public int drop(int line) {
        int refusal = missing(line);
        if (refusal != FINE) {
            return refusal;
        }
        lines[line].isThere = false;
        return lines[line].kind;
    }

    public int kind(int line) {
        int refusal = missing(line);
        return refusal != FINE ? refusal : lines[line].kind;
    }

    public int degree(int line) {
        int refusal = missing(line);
        return refusal != FINE ? refusal : lines[line].n;
    }

    public int told(int line, int which, int k) {
        if (!within(which, 0, 2) || !within(k, 0, 3)) {
            return BAD - THOUSAND;
        }
        int refusal = missing(line);
        return refusal != FINE ? refusal - THOUSAND : (int) lines[line].number(which, k);
    }

    public long at(int line, int above, int below, int which, int part) {
        if (!isLetter(above, below) || !within(which, 0, 1) || !within(part, 0, 1)) {
            return BAD - TRILLION;
        }
        int refusal = missing(line);
        if (refusal != FINE) {
            return refusal - TRILLION;
        }
        long over = lines[line].value(which, above, below);
        long under = lines[line].value(SHARE_W, above, below);
        long divisor = Whole.divisor(over, under);
        if (under == 0 || divisor == 0) {
            return NONE - TRILLION;
        }
        long lowest = (part == 0 ? over : under) / divisor;
        return under < 0 ? -lowest : lowest;
    }

    public int far(int line, int which) {
        if (!within(which, 0, 2)) {
            return BAD - THOUSAND;
        }
        int refusal = missing(line);
        return refusal != FINE ? refusal - THOUSAND : (int) lines[line].number(which, lines[line].n);
    }

    // ---- 2 equations, knots, meets

    public long equation(int line, int i) {
        if (!within(i, 0, 9)) {
            return BAD - QUADRILLION;
        }
        int refusal = pointless(line);
        return refusal != FINE ? refusal - QUADRILLION : lines[line].equation[i];
    }

    public int bends(int line) {
        int refusal = pointless(line);
        return refusal != FINE ? refusal : lines[line].equationDegree();
    }

    public int times(int line) {
        int refusal = pointless(line);
        if (refusal != FINE) {
            return refusal;
        }
        return lines[line].kind == STRAIGHT ? lines[line].n : 1;
    }

    public int lies(int line, int x, int y, int z) {
        if (!within(x, -20, 20) || !within(y, -20, 20) || !within(z, 1, 20)) {
            return BAD;
        }
        int refusal = missing(line);
        if (refusal != FINE) {
            return refusal;
        }
        return lines[line].holds(x, y, z) ? 1 : 0;
    }

    public long law(int line, int i) {
        if (!within(i, 0, 5)) {
            return BAD - TRILLION;
        }
        int refusal = lawless(line);
        return refusal != FINE ? refusal - TRILLION : lines[line].law[i];
    }

    public long knot(int line, int which) {
        if (!within(which, 0, 2)) {
            return BAD - TRILLION;
        }
        int refusal = lawless(line);
        return refusal != FINE ? refusal - TRILLION : lines[line].knot[which];
    }

    public int crosses(int line) {
        int refusal = lawless(line);
        return refusal != FINE ? refusal : lines[line].passes;
    }

    public int meets(int line, int a, int b, int c) {
        if (!within(a, -20, 20) || !within(b, -20, 20) || !within(c, -20, 20) || (a == 0 && b == 0)) {
            return BAD;
        }
        int refusal = missing(line);
        if (refusal != FINE) {
            return refusal;
        }
        for (int k = 0; k < EACH; k++) {
            polynomial[k] = lines[line].combined(a, b, c, k);
        }
        return Whole.first(polynomial) < 0 ? NONE : Roots.count(polynomial);
    }

    public long touch(int line, int above, int below, int which) {
        if (!isLetter(above, below) || !within(which, 0, 2)) {
            return BAD - TRILLION;
        }
        int refusal = missing(line);
        if (refusal != FINE) {
            return refusal - TRILLION;
        }
        study.findTouch(lines[line], above, below, straight);
        return Whole.first(straight) < 0 ? NONE - TRILLION : straight[which];
    }

    public int same(int line, int other) {
        if (!isLine(line) || !isLine(other)) {
            return BAD;
        }
        Line one = lines[line];
        Line two = lines[other];
        if (!one.isThere || !two.isThere) {
            return NOT;
        }
        boolean alike = one.kind == POINT && two.kind == POINT
            ? Whole.alike(one.numbers, two.numbers)
            : Whole.alike(one.equation, two.equation);
        return alike ? 1 : 0;
    }

    // ---- 3 anew

    public int anew(int line, int a, int b, int c, int d) {
        boolean fit = within(a, -5, 5) && within(b, -5, 5) && within(c, -5, 5) && within(d, -5, 5);
        if (!fit || a * d == b * c) {
            return BAD;
        }
        int refusal = missing(line);
        if (refusal != FINE) {
            return refusal;
        }
        Arrays.fill(shares, 0);
        for (int k = 0; k <= lines[line].n && k < EACH; k++) {
            Arrays.fill(polynomial, 0);
            polynomial[0] = 1;
            multiply(polynomial, a, b, k);
            multiply(polynomial, c, d, lines[line].n - k);
            for (int i = 0; i < ALL; i++) {
                shares[i] += lines[line].number(i / EACH, k) * polynomial[i % EACH];
            }
        }
        return Plain.lowerNumbers(shares) ? settle(line) : NOT;
    }

    public int move(int line, int a, int b, int c, int d, int e, int f) {
        boolean fit = within(a, -9, 9) && within(b, -9, 9) && within(c, -9, 9) && within(d, -9, 9)
            && within(e, -9, 9) && within(f, -9, 9);
        if (!fit || a * d == b * c) {
            return BAD;
        }
        int refusal = missing(line);
        if (refusal != FINE) {
            return refusal;
        }
        for (int k = 0; k < EACH; k++) {
            shares[k] = lines[line].combined(a, b, e, k);
            shares[EACH + k] = lines[line].combined(c, d, f, k);
            shares[2 * EACH + k] = lines[line].number(SHARE_W, k);
        }
        return Plain.lowerNumbers(shares) ? settle(line) : NOT;
    }

    public int copy(int line, int to) {
        if (!isLine(line) || !isLine(to)) {
            return BAD;
        }
        int refusal = missing(line);
        if (refusal != FINE) {
            return refusal;
        }
        System.arraycopy(lines[line].numbers, 0, shares, 0, ALL);
        return settle(to);
    }

    // ---- 4 sheets

    public int sheet(int sheet, int lane, int n) {
        if (!isSheet(sheet) || !isLane(lane) || n > Row.MOST) {
            return BAD;
        }
        if (n < 0) {
            return SIZE;
        }
        Row row = rows[sheet];
        row.lane = lane;
        row.count = n;
        Arrays.fill(row.items, 0);
        return n;
    }

    public int away(int sheet) {
        if (!isSheet(sheet)) {
            return BAD;
        }
        Row row = rows[sheet];
        if (row.lane == Row.NOTHING) {
            return NULL;
        }
        row.lane = Row.NOTHING;
        return row.count;
    }

    public int item(int sheet, int lane, int i, int v) {
        int refusal = unfit(sheet, lane, i, 1);
        if (refusal != FINE) {
            return refusal;
        }
        rows[sheet].items[i] = lane == Row.BYTES ? (byte) v : v;
        return 1;
    }

    public int terms(int line, int sheet, int lane, int from) {
        if (!isLine(line)) {
            return BAD;
        }
        int refusal = unfit(sheet, lane, from, ALL);
        if (refusal != FINE) {
            return refusal;
        }
        System.arraycopy(rows[sheet].items, from, shares, 0, ALL);
        return Whole.widest(shares) <= WIDEST_ITEM && plain.make(shares) ? settle(line) : NOT;
    }

    // ---- what calls ask before they answer

    private static boolean within(int number, int least, int most) {
        return number >= least && number <= most;
    }

    private static boolean isLine(int line) {
        return within(line, 0, LINES - 1);
    }

    private static boolean isSheet(int sheet) {
        return within(sheet, 0, SHEETS - 1);
    }

    private static boolean isLane(int lane) {
        return within(lane, 0, LANES - 1);
    }

    private static boolean isLetter(int above, int below) {
        return within(above, -20, 20) && within(below, 1, 20);
    }

    private int missing(int line) {
        if (!isLine(line)) {
            return BAD;
        }
        return lines[line].isThere ? FINE : NOT;
    }

    private int pointless(int line) {
        int refusal = missing(line);
        if (refusal != FINE) {
            return refusal;
        }
        return lines[line].kind == POINT ? NONE : FINE;
    }

    private int lawless(int line) {
        int refusal = missing(line);
        if (refusal != FINE) {
            return refusal;
        }
        return lines[line].kind == CUBIC ? FINE : CAST;
    }

    /** Why `many` items from one on can't be had of a SHEET taken as a row of a LANE. */
    private int unfit(int sheet, int lane, int from, int many) {
        if (!isSheet(sheet) || !isLane(lane)) {
            return BAD;
        }
        Row row = rows[sheet];
        if (row.lane == Row.NOTHING) {
            return NULL;
        }
        if (row.lane != lane) {
            return CAST;
        }
        return within(from, 0, row.count - many) ? FINE : INDEX;
    }

    /** The shares, which are PLAIN, are the LINE from now on. */
    private int settle(int line) {
        Line told = lines[line];
        System.arraycopy(shares, 0, told.numbers, 0, ALL);
        told.isThere = true;
        study.learn(told);
        return told.kind;
    }

    /** Multiplies by a t + b some times; what would go beyond t to the power 3 is never there. */
    private static void multiply(long[] polynomial, int a, int b, int often) {
        for (int i = 0; i < often; i++) {
            for (int k = EACH - 1; k > 0; k--) {
                polynomial[k] = polynomial[k] * b + polynomial[k - 1] * a;
            }
            polynomial[0] *= b;
        }
    }

    /** Whole numbers and rows of them. */
    private static final class Whole {
        /** Two longs need fewer than 93 steps. */
        private static final int STEPS = 100;

        static long divisor(long a, long b) {
            long more = Math.abs(a);
            long less = Math.abs(b);
            for (int step = 0; less != 0 && step < STEPS; step++) {
                long rest = more % less;
                more = less;
                less = rest;
            }
            return more;
        }

        static void takeOffDivisor(long[] row) {
            long divisor = 0;
            for (int i = 0; i < row.length; i++) {
                divisor = divisor(divisor, row[i]);
            }
            if (divisor > 1) {
                for (int i = 0; i < row.length; i++) {
                    row[i] /= divisor;
                }
            }
        }

        /** Where the first number is that is not 0, or -1. */
        static int first(long[] row) {
            for (int i = 0; i < row.length; i++) {
                if (row[i] != 0) {
                    return i;
                }
            }
            return -1;
        }

        /** Where the last number is that is not 0, or -1. */
        static int last(long[] row) {
            for (int i = row.length - 1; i >= 0; i--) {
                if (row[i] != 0) {
                    return i;
                }
            }
            return -1;
        }

        /** Turns the signs of all if the one there is below 0. */
        static void turn(long[] row, int there) {
            if (there < 0 || there >= row.length || row[there] >= 0) {
                return;
            }
            for (int i = 0; i < row.length; i++) {
                row[i] = -row[i];
            }
        }

        static long widest(long[] row) {
            long widest = 0;
            for (int i = 0; i < row.length; i++) {
                widest = Math.max(widest, Math.abs(row[i]));
            }
            return widest;
        }

        static boolean alike(long[] one, long[] two) {
            if (one.length != two.length) {
                return false;
            }
            for (int i = 0; i < one.length; i++) {
                if (one[i] != two[i]) {
                    return false;
                }
            }
            return true;
        }
    }

    /** How many real roots, each once, a polynomial has that is not 0. */
    private static final class Roots {
        static int count(long[] p) {
            int top = Whole.last(p);
            if (top == 3) {
                return ofCubic(p[3], p[2], p[1], p[0]);
            }
            if (top == 2) {
                return 1 + Long.signum(p[1] * p[1] - 4 * p[2] * p[0]);
            }
            return top == 1 ? 1 : 0;
        }

        private static int ofCubic(long a, long b, long c, long d) {
            long discriminant = 18 * a * b * c * d - 4 * b * b * b * d + b * b * c * c
                - 4 * a * c * c * c - 27 * a * a * d * d;
            if (discriminant != 0) {
                return discriminant > 0 ? 3 : 1;
            }
            return b * b == 3 * a * c ? 1 : 2;
        }
    }

    /** THE TAPE, and how it is read. */
    private static final class Tape {
        private static final int ROOM = 90;
        private static final int END = -1;
        private static final int GREATEST = 99;

        final int[] bytes = new int[ROOM];
        int length;
        /** How far it has been read; when reading failed, where the byte is that can't stand there. */
        int place;

        static boolean isText(long w, int n) {
            for (int i = 0; i < n; i++) {
                if (!within(byteOf(w, i), 32, 126)) {
                    return false;
                }
            }
            return true;
        }

        private static int byteOf(long w, int i) {
            return (int) (w >>> (8 * i)) & 255;
        }

        boolean append(long w, int n) {
            if (n > ROOM - length) {
                return false;
            }
            for (int i = n - 1; i >= 0 && length < ROOM; i--) {
                bytes[length] = byteOf(w, i);
                length++;
            }
            return true;
        }

        boolean read(long[] shares) {
            Arrays.fill(shares, 0);
            place = 0;
            for (int from = 0; from < ALL; from += EACH) {
                if (!readPolynomial(shares, from)) {
                    return false;
                }
                boolean last = from + EACH == ALL;
                if (next() != (last ? END : ';')) {
                    return false;
                }
                if (!last) {
                    place++;
                }
            }
            return true;
        }

        private boolean readPolynomial(long[] shares, int from) {
            boolean goesOn = true;
            for (int term = 0; goesOn && term < ROOM; term++) {
                int sign = next();
                if (sign == '-' || (sign == '+' && term > 0)) {
                    place++;
                }
                if (!readTerm(shares, from, sign == '-' ? -1 : 1)) {
                    return false;
                }
                goesOn = next() == '+' || next() == '-';
            }
            return true;
        }

        private boolean readTerm(long[] shares, int from, int sign) {
            long number = 1;
            int power = 0;
            if (isDigit(next())) {
                int start = place;
                number = readNumber();
                if (number > GREATEST) {
                    place = start;
                    return false;
                }
            } else if (next() != 't') {
                return false;
            }
            if (next() == 't') {
                place++;
                power = readPower();
            }
            int there = from + power;
            if (there >= 0 && there < shares.length) {
                shares[there] += sign * number;
            }
            return true;
        }

        private int readPower() {
            int power = next() - '0';
            if (power != 2 && power != 3) {
                return 1;
            }
            place++;
            return power;
        }

        /** Blanks end a number, so its digits are looked at without next(). */
        private long readNumber() {
            long number = 0;
            for (; place < length && place < ROOM && isDigit(bytes[place]); place++) {
                number = Math.min(number * 10 + bytes[place] - '0', GREATEST + 1);
            }
            return number;
        }

        /** The byte at the place, which is put behind blanks first. */
        private int next() {
            while (place < length && place < ROOM && bytes[place] == ' ') {
                place++;
            }
            return place >= 0 && place < length && place < ROOM ? bytes[place] : END;
        }

        private static boolean isDigit(int there) {
            return within(there, '0', '9');
        }
    }

    /** Makes shares PLAIN. */
    private static final class Plain {
        private static final int WIDEST_TOLD = 9;
        /** No number read from a TAPE (29 times 99 at most) or from a SHEET is wider. */
        private static final int WIDEST_READ = 3000;
        /** Each step lowers one of two degrees, which are 3 at most. */
        private static final int STEPS = 16;

        /** Of two polynomials the one of the higher degree, at last what divides both. */
        private long[] high = new long[EACH];
        private long[] low = new long[EACH];
        private final long[] quotient = new long[EACH];

        /** Whether the shares, PLAIN now, are a LINE. */
        boolean make(long[] shares) {
            if (topOfW(shares) < 0) {
                return false;
            }
            Arrays.fill(high, 0);
            for (int from = 0; from < ALL; from += EACH) {
                System.arraycopy(shares, from, low, 0, EACH);
                Whole.takeOffDivisor(low);
                findDivisor();
            }
            for (int from = 0; from < ALL; from += EACH) {
                divide(shares, from);
            }
            return lowerNumbers(shares);
        }

        /**
         * As make(), for shares that no polynomial divides. Telling a PLAIN LINE anew or moving it
         * keeps it so: both can be undone, and a common root would be one before, too.
         */
        static boolean lowerNumbers(long[] shares) {
            int top = topOfW(shares);
            if (top < 0) {
                return false;
            }
            Whole.takeOffDivisor(shares);
            Whole.turn(shares, top);
            return Whole.widest(shares) <= WIDEST_TOLD;
        }

        private static int topOfW(long[] shares) {
            int last = Whole.last(shares);
            return last < ALL - EACH ? -1 : last;
        }

        /** Euclid's way; the common divisors of numbers are taken off at each step, so longs hold them. */
        private void findDivisor() {
            for (int step = 0; step < STEPS; step++) {
                if (Whole.last(high) < Whole.last(low)) {
                    long[] swapped = high;
                    high = low;
                    low = swapped;
                }
                int top = Whole.last(low);
                if (top < 0) {
                    return;
                }
                if (top == 0 || (top == 1 && Whole.widest(low) > WIDEST_READ)) {
                    // The numbers of a divisor of degree 1 divide numbers that were read:
                    // a wider one divides nothing, and to go on with it would leave the longs.
                    Arrays.fill(high, 0);
                    high[0] = 1;
                    return;
                }
                eliminate(Whole.last(high), top);
            }
        }

        /** Takes off the highest power of the higher polynomial by help of the lower one. */
        private void eliminate(int highTop, int lowTop) {
            if (lowTop < 0 || highTop < lowTop || highTop >= EACH) {
                return;
            }
            int shift = highTop - lowTop;
            long ofHigh = high[highTop];
            long ofLow = low[lowTop];
            for (int k = 0; k < EACH; k++) {
                high[k] = high[k] * ofLow - (k < shift ? 0 : low[k - shift] * ofHigh);
            }
            Whole.takeOffDivisor(high);
        }

        private void divide(long[] shares, int from) {
            int top = Whole.last(high);
            if (top < 0 || high[top] == 0) {
                return;
            }
            Arrays.fill(quotient, 0);
            for (int k = EACH - 1 - top; k >= 0; k--) {
                quotient[k] = shares[from + top + k] / high[top];
                for (int i = 0; i <= top; i++) {
                    shares[from + k + i] -= quotient[k] * high[i];
                }
            }
            System.arraycopy(quotient, 0, shares, from, EACH);
        }
    }

    /** A LINE, with what has been found of it. */
    private static final class Line {
        /** Where in THE EQUATION's order the powers x, y of one degree begin, by the degree. */
        private static final int[] START = {9, 7, 4, 0};

        final long[] numbers = new long[ALL];
        final long[] equation = new long[10];
        final long[] law = new long[6];
        final long[] knot = new long[3];
        boolean isThere;
        int n;
        int kind;
        /** How many t have THE KNOT as their PLACE. */
        int passes;

        static int placeInEquation(int xs, int ys) {
            return START[Math.min(Math.max(xs + ys, 0), 3)] + ys;
        }

        long number(int which, int k) {
            return which < 0 || which > SHARE_W || k < 0 || k >= EACH ? 0 : numbers[EACH * which + k];
        }

        /** The number of t to the power k in a X + b Y + c W. */
        long combined(long a, long b, long c, int k) {
            return a * number(0, k) + b * number(1, k) + c * number(2, k);
        }

        /** A polynomial at above / below, times below to the power 3. */
        long value(int which, long above, long below) {
            return ((number(which, 3) * above + number(which, 2) * below) * above
                + number(which, 1) * below * below) * above
                + number(which, 0) * below * below * below;
        }

        /** What it grows by at above / below, times below to the power 2. */
        long growth(int which, long above, long below) {
            return (3 * number(which, 3) * above + 2 * number(which, 2) * below) * above
                + number(which, 1) * below * below;
        }

        int equationDegree() {
            return kind == STRAIGHT ? 1 : n;
        }

        boolean holds(long x, long y, long z) {
            if (kind == POINT) {
                return number(0, 0) * z == x * number(2, 0) && number(1, 0) * z == y * number(2, 0);
            }
            long sum = 0;
            for (int xs = 0; xs <= 3; xs++) {
                for (int ys = 0; xs + ys <= 3; ys++) {
                    sum += equation[placeInEquation(xs, ys)] * power(x, xs) * power(y, ys) * power(z, 3 - xs - ys);
                }
            }
            return sum == 0;
        }

        private static long power(long base, int often) {
            long power = 1;
            for (int i = 0; i < often; i++) {
                power *= base;
            }
            return power;
        }
    }

    /**
     * Finds what follows from the numbers of a LINE. The numbers of t to the power k in X, Y, W
     * are taken as the vector v(k); the cross product of two such vectors is a linear form in x, y, 1.
     */
    private static final class Study {
        /** The forms v(i) x v(j) by the names ij; MIDDLE is a sum, ONE the form 1. */
        private static final int F10 = 0, F20 = 1, F30 = 2, F21 = 3, F31 = 4, F32 = 5, MIDDLE = 6, ONE = 7;
        private static final int[] LEFT = {1, 2, 3, 2, 3, 3};
        private static final int[] RIGHT = {0, 0, 0, 1, 1, 2};
        /** The three powers other than 0, than 1, than 2, than 3. */
        private static final int[] OTHERS = {1, 2, 3, 0, 2, 3, 0, 1, 3, 0, 1, 2};

        private final long[] forms = new long[24];
        private final long[] left = new long[3];
        private final long[] right = new long[3];
        private final long[] product = new long[3];
        /** The numbers r with r0 v(0) + r1 v(1) + r2 v(2) + r3 v(3) 0. */
        private final long[] relation = new long[EACH];
        /** The polynomial of degree 2 whose roots are the t of THE KNOT. */
        private final long[] knotted = new long[3];

        void learn(Line line) {
            line.n = degreeOf(line);
            findForms(line);
            findRelation(line);
            line.kind = kindOf(line.n);
            findEquation(line);
            if (line.kind == CUBIC) {
                findKnotted();
                findLaw(line);
                findKnot(line);
            }
        }

        /** THE TOUCH, or all 0. */
        void findTouch(Line line, int above, int below, long[] straight) {
            for (int which = 0; which < 3; which++) {
                left[which] = line.value(which, above, below);
                right[which] = line.growth(which, above, below);
            }
            cross();
            System.arraycopy(product, 0, straight, 0, 3);
            Whole.takeOffDivisor(straight);
            Whole.turn(straight, Whole.first(straight));
        }

        private static int degreeOf(Line line) {
            for (int k = EACH - 1; k > 0; k--) {
                if (line.number(0, k) != 0 || line.number(1, k) != 0 || line.number(2, k) != 0) {
                    return k;
                }
            }
            return 0;
        }

        /** Without a relation that is not 0 any three vectors lie in one plane: the LINE is not bent. */
        private int kindOf(int n) {
            if (n == 0) {
                return POINT;
            }
            if (Whole.first(relation) < 0) {
                return STRAIGHT;
            }
            return n == 2 ? CONIC : CUBIC;
        }

        private void cross() {
            product[0] = left[1] * right[2] - left[2] * right[1];
            product[1] = left[2] * right[0] - left[0] * right[2];
            product[2] = left[0] * right[1] - left[1] * right[0];
        }

        private void findForms(Line line) {
            for (int form = F10; form <= F32; form++) {
                findForm(line, form, LEFT[form], RIGHT[form]);
            }
            for (int i = 0; i < 3; i++) {
                forms[3 * MIDDLE + i] = forms[3 * F30 + i] + forms[3 * F21 + i];
                forms[3 * ONE + i] = i == 2 ? 1 : 0;
            }
        }

        private void findForm(Line line, int form, int i, int j) {
            for (int which = 0; which < 3; which++) {
                left[which] = line.number(which, i);
                right[which] = line.number(which, j);
            }
            cross();
            System.arraycopy(product, 0, forms, 3 * form, 3);
        }

        /** Cramer's rule. */
        private void findRelation(Line line) {
            relation[0] = formAt(F32, line, 1);
            relation[1] = -formAt(F32, line, 0);
            relation[2] = formAt(F31, line, 0);
            relation[3] = -formAt(F21, line, 0);
        }

        private long formAt(int form, Line line, int k) {
            return line.combined(forms[3 * form], forms[3 * form + 1], forms[3 * form + 2], k);
        }

        /**
         * X - x W and Y - y W have a common root t just where (x, y) is a PLACE: Bezout's determinant,
         * whose entries are the forms, is THE EQUATION then.
         */
        private void findEquation(Line line) {
            Arrays.fill(line.equation, 0);
            if (line.kind == STRAIGHT) {
                addProduct(line.equation, 1, firstForm(), ONE, ONE);
            } else if (line.kind == CONIC) {
                addProduct(line.equation, 1, F10, F21, ONE);
                addProduct(line.equation, -1, F20, F20, ONE);
            } else if (line.kind == CUBIC) {
                addProduct(line.equation, 1, F10, MIDDLE, F32);
                addProduct(line.equation, 2, F20, F30, F31);
                addProduct(line.equation, -1, F10, F31, F31);
                addProduct(line.equation, -1, MIDDLE, F30, F30);
                addProduct(line.equation, -1, F32, F20, F20);
            }
            Whole.takeOffDivisor(line.equation);
            Whole.turn(line.equation, Whole.first(line.equation));
        }

        /** Two vectors that are not multiples of one another span all of a STRAIGHT one. */
        private int firstForm() {
            for (int form = F10; form <= F32; form++) {
                if (forms[3 * form] != 0 || forms[3 * form + 1] != 0 || forms[3 * form + 2] != 0) {
                    return form;
                }
            }
            return ONE;
        }

        private void addProduct(long[] equation, long factor, int f, int g, int h) {
            for (int i = 0; i < 3; i++) {
                for (int j = 0; j < 3; j++) {
                    for (int k = 0; k < 3; k++) {
                        int there = Line.placeInEquation(howMany(0, i, j, k), howMany(1, i, j, k));
                        equation[there] += factor * forms[3 * f + i] * forms[3 * g + j] * forms[3 * h + k];
                    }
                }
            }
        }

        private static int howMany(int letter, int i, int j, int k) {
            return (i == letter ? 1 : 0) + (j == letter ? 1 : 0) + (k == letter ? 1 : 0);
        }

        /**
         * A straight of THE LAW, that of s, goes through THE KNOT and through the PLACE at s, so at t it is
         * (s - t) Q(t), with Q 0 at the t of THE KNOT alone. So THE LAW, p t + q with vectors p and q, has
         * p . v(k) = Q's number k and q . v(k) = -(Q's number k - 1), and the relation among the v(k)
         * leaves one Q.
         */
        private void findKnotted() {
            for (int i = 0; i < 3; i++) {
                left[i] = relation[i];
                right[i] = relation[i + 1];
            }
            cross();
            System.arraycopy(product, 0, knotted, 0, 3);
            Whole.takeOffDivisor(knotted);
        }

        /** Cramer's rule for p and q, by three vectors that do not lie in one plane. */
        private void findLaw(Line line) {
            int without = Math.max(Whole.first(relation), 0);
            int i = OTHERS[3 * without];
            int j = OTHERS[3 * without + 1];
            int k = OTHERS[3 * without + 2];
            Arrays.fill(line.law, 0);
            addToLaw(line, i, j, k);
            addToLaw(line, j, k, i);
            addToLaw(line, k, i, j);
            Whole.takeOffDivisor(line.law);
            Whole.turn(line.law, Whole.first(line.law));
        }

        private void addToLaw(Line line, int i, int j, int k) {
            findForm(line, F10, j, k);
            for (int which = 0; which < 3; which++) {
                line.law[2 * which] += knottedNumber(i) * forms[which];
                line.law[2 * which + 1] -= knottedNumber(i - 1) * forms[which];
            }
        }

        private long knottedNumber(int k) {
            return k < 0 || k > 2 ? 0 : knotted[k];
        }

        private void findKnot(Line line) {
            for (int which = 0; which < 3; which++) {
                left[which] = line.law[2 * which];
                right[which] = line.law[2 * which + 1];
            }
            cross();
            System.arraycopy(product, 0, line.knot, 0, 3);
            Whole.takeOffDivisor(line.knot);
            Whole.turn(line.knot, Whole.last(line.knot));
            // A root beyond all t counts too, so the discriminant tells, whatever the degree of Q is.
            line.passes = 1 + Long.signum(knotted[1] * knotted[1] - 4 * knotted[0] * knotted[2]);
        }
    }

    /** What a SHEET holds. */
    private static final class Row {
        private static final int MOST = 20;
        private static final int NOTHING = -1;
        private static final int BYTES = 0;

        final long[] items = new long[MOST];
        int lane = NOTHING;
        int count;
    }
}
