import java.math.BigInteger;
import java.util.ArrayList;
import java.util.List;

/**
 * The document once more, slow and with fractions of any length, by other ways than the program goes:
 * what is unknown is solved for as a set of linear equations, roots are counted by Sturm's chains.
 */
final class Model {
    static final long T = 1000000000000L;
    static final long Q = 1000000000000000L;

    /** No byte of a TAPE. */
    private static final char END = 0;

    private final StringBuilder tape = new StringBuilder();
    private final Poly[][] lines = new Poly[4][];
    private final Object[] sheets = new Object[4];

    // ---- linear equations

    /** One solution that is not 0 for each dimension of what solves the rows. */
    static List<Fraction[]> solve(List<Fraction[]> rows, int unknowns) {
        List<Fraction[]> left = new ArrayList<>(rows);
        List<Fraction[]> done = new ArrayList<>();
        List<Integer> heads = new ArrayList<>();
        for (int column = 0; column < unknowns; column++) {
            Fraction[] pivot = null;
            for (Fraction[] row : left) {
                if (!row[column].isZero()) {
                    pivot = row;
                    break;
                }
            }
            if (pivot == null) {
                continue;
            }
            left.remove(pivot);
            Fraction[] unit = less(pivot, pivot, Fraction.ONE.minus(Fraction.ONE.by(pivot[column])));
            left = cleared(left, unit, column);
            done = cleared(done, unit, column);
            done.add(unit);
            heads.add(column);
        }
        List<Fraction[]> solutions = new ArrayList<>();
        for (int free = 0; free < unknowns; free++) {
            if (heads.contains(free)) {
                continue;
            }
            Fraction[] solution = new Fraction[unknowns];
            java.util.Arrays.fill(solution, Fraction.ZERO);
            solution[free] = Fraction.ONE;
            for (int i = 0; i < heads.size(); i++) {
                solution[heads.get(i)] = Fraction.ZERO.minus(done.get(i)[free]);
            }
            solutions.add(solution);
        }
        return solutions;
    }

    private static List<Fraction[]> cleared(List<Fraction[]> rows, Fraction[] unit, int column) {
        List<Fraction[]> cleared = new ArrayList<>();
        for (Fraction[] row : rows) {
            cleared.add(less(row, unit, row[column]));
        }
        return cleared;
    }

    private static Fraction[] less(Fraction[] row, Fraction[] other, Fraction factor) {
        Fraction[] less = new Fraction[row.length];
        for (int i = 0; i < row.length; i++) {
            less[i] = row[i].minus(other[i].times(factor));
        }
        return less;
    }

    /** The combinations of polynomials that are 0. */
    private static List<Fraction[]> relations(Poly... polys) {
        int top = 0;
        for (Poly poly : polys) {
            top = Math.max(top, poly.degree());
        }
        List<Fraction[]> rows = new ArrayList<>();
        for (int k = 0; k <= top; k++) {
            Fraction[] row = new Fraction[polys.length];
            for (int i = 0; i < polys.length; i++) {
                row[i] = polys[i].get(k);
            }
            rows.add(row);
        }
        return solve(rows, polys.length);
    }

    /** As whole numbers without a common divisor, the first (or last) that is not 0 above 0. */
    private static BigInteger[] whole(Fraction[] row, boolean first) {
        BigInteger below = BigInteger.ONE;
        for (Fraction number : row) {
            below = below.multiply(number.below).divide(below.gcd(number.below));
        }
        BigInteger divisor = BigInteger.ZERO;
        BigInteger lead = BigInteger.ZERO;
        BigInteger[] whole = new BigInteger[row.length];
        for (int i = 0; i < row.length; i++) {
            whole[i] = row[i].above.multiply(below.divide(row[i].below));
            divisor = divisor.gcd(whole[i]);
            if (whole[i].signum() != 0 && (lead.signum() == 0 || !first)) {
                lead = whole[i];
            }
        }
        if (lead.signum() == 0) {
            return null;
        }
        divisor = lead.signum() < 0 ? divisor.negate() : divisor;
        for (int i = 0; i < whole.length; i++) {
            whole[i] = whole[i].divide(divisor);
        }
        return whole;
    }

    // ---- lines

    /** Told PLAIN, or null. */
    static Poly[] plain(Poly x, Poly y, Poly w) {
        if (w.isZero()) {
            return null;
        }
        Poly divisor = Poly.divisor(Poly.divisor(x, y), w);
        Poly[] shares = {x.by(divisor)[0], y.by(divisor)[0], w.by(divisor)[0]};
        Fraction[] row = new Fraction[12];
        for (int i = 0; i < 12; i++) {
            row[i] = shares[i / 4].get(i % 4);
        }
        BigInteger[] whole = whole(row, false);
        for (BigInteger number : whole) {
            if (number.abs().bitLength() > 8 || Math.abs(number.intValue()) > 9) {
                return null;
            }
        }
        Poly[] plain = new Poly[3];
        for (int i = 0; i < 3; i++) {
            plain[i] = Poly.of(whole[4 * i].intValue(), whole[4 * i + 1].intValue(), whole[4 * i + 2].intValue(),
                whole[4 * i + 3].intValue());
        }
        return plain;
    }

    private int take(int line, Poly[] plain) {
        if (plain == null) {
            return -2;
        }
        lines[line] = plain;
        return kindOf(plain);
    }

    private static int degreeOf(Poly[] p) {
        return Math.max(0, Math.max(p[0].degree(), Math.max(p[1].degree(), p[2].degree())));
    }

    static int kindOf(Poly[] p) {
        int n = degreeOf(p);
        return n == 0 ? 0 : !relations(p).isEmpty() ? 1 : n;
    }

    private int missing(int line) {
        return line < 0 || line > 3 ? -1 : lines[line] == null ? -2 : 0;
    }

    private static boolean out(int number, int least, int most) {
        return number < least || number > most;
    }

    private static long number(Fraction whole) {
        return whole.above.longValueExact();
    }

    int type(long w, int n) {
        if (out(n, 1, 8)) {
            return -1;
        }
        StringBuilder text = new StringBuilder();
        for (int i = 0; i < n; i++) {
            int there = (int) (w >> 8 * i & 255);
            if (out(there, 32, 126)) {
                return -1;
            }
            text.insert(0, (char) there);
        }
        if (tape.length() + n > 90) {
            return -3;
        }
        return tape.append(text).length();
    }

    /** A machine of states, other than the program, which goes down from polynomials to numbers. */
    int line(int line) {
        if (out(line, 0, 3)) {
            return -1;
        }
        String text = tape.toString();
        tape.setLength(0);
        long[][] sums = new long[3][4];
        int which = 0;
        char state = 'A';
        int sign = 1;
        long number = 1;
        int start = 0;
        for (int i = 0; i <= text.length(); i++) {
            char c = i == text.length() ? END : text.charAt(i);
            boolean digit = c >= '0' && c <= '9';
            if (state == 'N' && digit) {
                number = Math.min(1000, number * 10 + c - '0');
                continue;
            }
            if (state == 'N' && number > 99) {
                return -20 - start;
            }
            if (state == 'N') {
                state = 'M';
            }
            if (c == ' ') {
                continue;
            }
            if ((state == 'A' || state == 'S') && digit) {
                state = 'N';
                start = i;
                number = c - '0';
            } else if ((state == 'A' || state == 'S' || state == 'M') && c == 't') {
                state = 'T';
            } else if (state == 'A' && c == '-') {
                state = 'S';
                sign = -1;
            } else if (state == 'T' && (c == '2' || c == '3')) {
                state = c;
            } else if ("MT23".indexOf(state) >= 0
                && (c == '+' || c == '-' || (c == ';' && which < 2) || (c == END && which == 2))) {
                sums[which]["MT23".indexOf(state)] += sign * number;
                sign = c == '-' ? -1 : 1;
                state = c == ';' ? 'A' : 'S';
                number = 1;
                which += c == ';' ? 1 : 0;
            } else {
                return -20 - i;
            }
        }
        return take(line, plain(Poly.of(sums[0]), Poly.of(sums[1]), Poly.of(sums[2])));
    }

    int drop(int line) {
        int kind = kind(line);
        if (kind >= 0) {
            lines[line] = null;
        }
        return kind;
    }

    int kind(int line) {
        return missing(line) != 0 ? missing(line) : kindOf(lines[line]);
    }

    int degree(int line) {
        return missing(line) != 0 ? missing(line) : degreeOf(lines[line]);
    }

    int told(int line, int which, int k) {
        if (out(which, 0, 2) || out(k, 0, 3)) {
            return -1001;
        }
        return missing(line) != 0 ? missing(line) - 1000 : (int) number(lines[line][which].get(k));
    }

    long at(int line, int above, int below, int which, int part) {
        if (out(above, -20, 20) || out(below, 1, 20) || out(which, 0, 1) || out(part, 0, 1)) {
            return -1 - T;
        }
        if (missing(line) != 0) {
            return missing(line) - T;
        }
        Fraction t = Fraction.of(above, below);
        Fraction w = lines[line][2].at(t);
        if (w.isZero()) {
            return -4 - T;
        }
        Fraction place = lines[line][which].at(t).by(w);
        return (part == 0 ? place.above : place.below).longValueExact();
    }

    int far(int line, int which) {
        if (out(which, 0, 2)) {
            return -1001;
        }
        return missing(line) != 0 ? missing(line) - 1000 : told(line, which, degree(line));
    }

    // ---- equations

    /** In the document's order; null: a POINT. */
    private static BigInteger[] equationOf(Poly[] p) {
        for (int d = 1; d <= 3 && degreeOf(p) > 0; d++) {
            List<Poly> products = new ArrayList<>();
            List<Integer> places = new ArrayList<>();
            int place = 0;
            for (int degree = 3; degree >= 0; degree--) {
                for (int ys = 0; ys <= degree; ys++, place++) {
                    if (degree <= d) {
                        products.add(p[0].power(degree - ys).times(p[1].power(ys)).times(p[2].power(d - degree)));
                        places.add(place);
                    }
                }
            }
            List<Fraction[]> found = relations(products.toArray(new Poly[0]));
            if (!found.isEmpty()) {
                Fraction[] row = new Fraction[10];
                java.util.Arrays.fill(row, Fraction.ZERO);
                for (int i = 0; i < places.size(); i++) {
                    row[places.get(i)] = found.get(0)[i];
                }
                return whole(row, true);
            }
        }
        return null;
    }

    private int pointless(int line) {
        return missing(line) != 0 ? missing(line) : degree(line) == 0 ? -4 : 0;
    }

    long equation(int line, int i) {
        if (out(i, 0, 9)) {
            return -1 - Q;
        }
        return pointless(line) != 0 ? pointless(line) - Q : equationOf(lines[line])[i].longValueExact();
    }

    int bends(int line) {
        if (pointless(line) != 0) {
            return pointless(line);
        }
        BigInteger[] f = equationOf(lines[line]);
        for (int i = 0; i < 7; i++) {
            if (f[i].signum() != 0) {
                return i < 4 ? 3 : 2;
            }
        }
        return 1;
    }

    int times(int line) {
        return pointless(line) != 0 ? pointless(line) : degree(line) / bends(line);
    }

    int lies(int line, int x, int y, int z) {
        if (out(x, -20, 20) || out(y, -20, 20) || out(z, 1, 20)) {
            return -1;
        }
        if (missing(line) != 0) {
            return missing(line);
        }
        Fraction[] there = {Fraction.of(x, z), Fraction.of(y, z)};
        if (degree(line) == 0) {
            Fraction w = lines[line][2].get(0);
            return lines[line][0].get(0).by(w).minus(there[0]).isZero()
                && lines[line][1].get(0).by(w).minus(there[1]).isZero() ? 1 : 0;
        }
        BigInteger[] f = equationOf(lines[line]);
        Fraction sum = Fraction.ZERO;
        int place = 0;
        for (int degree = 3; degree >= 0; degree--) {
            for (int ys = 0; ys <= degree; ys++, place++) {
                Fraction term = Fraction.of(f[place].longValueExact());
                for (int i = 0; i < degree; i++) {
                    term = term.times(there[i < ys ? 1 : 0]);
                }
                sum = sum.plus(term);
            }
        }
        return sum.isZero() ? 1 : 0;
    }

    private int lawless(int line) {
        return missing(line) != 0 ? missing(line) : kind(line) != 3 ? -12 : 0;
    }

    private static BigInteger[] lawOf(Poly[] p) {
        Poly t = Poly.of(0, 1);
        return whole(relations(p[0].times(t), p[0], p[1].times(t), p[1], p[2].times(t), p[2]).get(0), true);
    }

    private static BigInteger[] knotOf(Poly[] p) {
        BigInteger[] law = lawOf(p);
        List<Fraction[]> rows = new ArrayList<>();
        for (int i = 0; i < 2; i++) {
            Fraction[] row = new Fraction[3];
            for (int j = 0; j < 3; j++) {
                row[j] = Fraction.of(law[2 * j + i].longValueExact());
            }
            rows.add(row);
        }
        return whole(solve(rows, 3).get(0), false);
    }

    long law(int line, int i) {
        if (out(i, 0, 5)) {
            return -1 - T;
        }
        return lawless(line) != 0 ? lawless(line) - T : lawOf(lines[line])[i].longValueExact();
    }

    long knot(int line, int which) {
        if (out(which, 0, 2)) {
            return -1 - T;
        }
        return lawless(line) != 0 ? lawless(line) - T : knotOf(lines[line])[which].longValueExact();
    }

    int crosses(int line) {
        if (lawless(line) != 0) {
            return lawless(line);
        }
        BigInteger[] knot = knotOf(lines[line]);
        Poly common = Poly.of();
        boolean beyond = true;
        for (int i = 0; i < 3; i++) {
            int j = (i + 1) % 3;
            Poly off = lines[line][i].times(knot[j].longValueExact())
                .minus(lines[line][j].times(knot[i].longValueExact()));
            common = Poly.divisor(common, off);
            beyond &= off.get(3).isZero();
        }
        return common.roots() + (beyond ? 1 : 0);
    }

    int meets(int line, int a, int b, int c) {
        if (out(a, -20, 20) || out(b, -20, 20) || out(c, -20, 20) || a == 0 && b == 0) {
            return -1;
        }
        if (missing(line) != 0) {
            return missing(line);
        }
        Poly p = mixed(line, a, b, c);
        return p.isZero() ? -4 : p.roots();
    }

    private Poly mixed(int line, int a, int b, int c) {
        return lines[line][0].times(a).plus(lines[line][1].times(b)).plus(lines[line][2].times(c));
    }

    long touch(int line, int above, int below, int which) {
        if (out(above, -20, 20) || out(below, 1, 20) || out(which, 0, 2)) {
            return -1 - T;
        }
        if (missing(line) != 0) {
            return missing(line) - T;
        }
        Fraction t = Fraction.of(above, below);
        List<Fraction[]> rows = new ArrayList<>();
        rows.add(new Fraction[3]);
        rows.add(new Fraction[3]);
        for (int i = 0; i < 3; i++) {
            rows.get(0)[i] = lines[line][i].at(t);
            rows.get(1)[i] = lines[line][i].growth().at(t);
        }
        List<Fraction[]> found = solve(rows, 3);
        return found.size() != 1 ? -4 - T : whole(found.get(0), true)[which].longValueExact();
    }

    int same(int line, int other) {
        if (out(line, 0, 3) || out(other, 0, 3)) {
            return -1;
        }
        if (missing(line) != 0 || missing(other) != 0) {
            return -2;
        }
        BigInteger[] one = equationOf(lines[line]);
        BigInteger[] two = equationOf(lines[other]);
        if (one == null && two == null) {
            for (int i = 0; i < 4; i++) {
                if (i % 2 == 0 ? at(line, 0, 1, 0, i / 2) != at(other, 0, 1, 0, i / 2)
                    : at(line, 0, 1, 1, i / 2) != at(other, 0, 1, 1, i / 2)) {
                    return 0;
                }
            }
            return 1;
        }
        return java.util.Arrays.equals(one, two) ? 1 : 0;
    }

    // ---- anew

    int anew(int line, int a, int b, int c, int d) {
        if (out(a, -5, 5) || out(b, -5, 5) || out(c, -5, 5) || out(d, -5, 5) || a * d - b * c == 0) {
            return -1;
        }
        if (missing(line) != 0) {
            return missing(line);
        }
        int n = degree(line);
        Poly[] told = {Poly.of(), Poly.of(), Poly.of()};
        for (int i = 0; i < 3; i++) {
            for (int k = 0; k <= n; k++) {
                told[i] = told[i].plus(Poly.of(b, a).power(k).times(Poly.of(d, c).power(n - k))
                    .times(lines[line][i].get(k)));
            }
        }
        return take(line, plain(told[0], told[1], told[2]));
    }

    int move(int line, int a, int b, int c, int d, int e, int f) {
        if (out(a, -9, 9) || out(b, -9, 9) || out(c, -9, 9) || out(d, -9, 9) || out(e, -9, 9) || out(f, -9, 9)
            || a * d - b * c == 0) {
            return -1;
        }
        if (missing(line) != 0) {
            return missing(line);
        }
        return take(line, plain(mixed(line, a, b, e), mixed(line, c, d, f), lines[line][2]));
    }

    int copy(int line, int to) {
        if (out(line, 0, 3) || out(to, 0, 3)) {
            return -1;
        }
        return missing(line) != 0 ? missing(line) : take(to, lines[line]);
    }

    // ---- sheets

    int sheet(int sheet, int lane, int n) {
        if (out(sheet, 0, 3) || out(lane, 0, 2) || n > 20) {
            return -1;
        }
        if (n < 0) {
            return -14;
        }
        sheets[sheet] = lane == 0 ? new byte[n] : lane == 1 ? new int[n] : new long[n];
        return n;
    }

    private static int laneOf(Object row) {
        return row instanceof byte[] ? 0 : row instanceof int[] ? 1 : 2;
    }

    int away(int sheet) {
        if (out(sheet, 0, 3)) {
            return -1;
        }
        if (sheets[sheet] == null) {
            return -11;
        }
        int had = java.lang.reflect.Array.getLength(sheets[sheet]);
        sheets[sheet] = null;
        return had;
    }

    private int unfit(int sheet, int lane, long from, long behind) {
        if (out(sheet, 0, 3) || out(lane, 0, 2)) {
            return -1;
        }
        Object row = sheets[sheet];
        return row == null ? -11 : laneOf(row) != lane ? -12
            : from < 0 || behind > java.lang.reflect.Array.getLength(row) ? -13 : 0;
    }

    int item(int sheet, int lane, int i, int v) {
        if (unfit(sheet, lane, i, i + 1L) != 0) {
            return unfit(sheet, lane, i, i + 1L);
        }
        if (lane == 0) {
            ((byte[]) sheets[sheet])[i] = (byte) v;
        } else if (lane == 1) {
            ((int[]) sheets[sheet])[i] = v;
        } else {
            ((long[]) sheets[sheet])[i] = v;
        }
        return 1;
    }

    int terms(int line, int sheet, int lane, int from) {
        if (out(line, 0, 3)) {
            return -1;
        }
        if (unfit(sheet, lane, from, from + 12L) != 0) {
            return unfit(sheet, lane, from, from + 12L);
        }
        long[][] numbers = new long[3][4];
        for (int i = 0; i < 12; i++) {
            long number = java.lang.reflect.Array.getLong(sheets[sheet], from + i);
            if (number < -1000 || number > 1000) {
                return -2;
            }
            numbers[i / 4][i % 4] = number;
        }
        return take(line, plain(Poly.of(numbers[0]), Poly.of(numbers[1]), Poly.of(numbers[2])));
    }
}
