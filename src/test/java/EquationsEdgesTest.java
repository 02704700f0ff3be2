/** The sentences of promises 10 to 19, and of "2 THE EQUATION", that name an edge: a test for each of them. */
public final class EquationsEdgesTest {
    private static final long T = 1000000000000L;
    private static final long Q = 1000000000000000L;
    private static final long[] NO_TOUCH = {-4 - T, -4 - T, -4 - T};
    private static final String CUBIC = "t2-1;t3-t;1";
    private static final String WIDE = "1-2t+3t2-4t3;5-6t+7t2-8t3;9-t+2t2+3t3";

    public static void main(String[] args) {
        Due due = new Due("EquationsEdgesTest");
        leastDegree(due);
        withoutDivisor(due);
        firstAboveZero(due);
        ofHowManyTimes(due);
        firstAndLastNumber(due);
        noEquation(due);
        edgesOfPlaces(due);
        pointsThere(due);
        theLaw(due);
        theLawToldAgain(due);
        theKnot(due);
        howManyT(due);
        anotherKind(due);
        eachRootOnce(due);
        edgesOfStraights(due);
        allOfIt(due);
        theTouch(due);
        edgesOfTouch(due);
        noTouch(due);
        same(due);
        due.end();
    }

    private static void obeys(Due due, String text, long... numbers) {
        due.rows("equation of " + text, Due.equation(Due.with(text), 0), numbers);
    }

    private static void leastDegree(Due due) {
        due.sentence("THE EQUATION .. is the polynomial F in x, y of least degree with F 0 at all its PLACES");
        obeys(due, "0;t;1", 0, 0, 0, 0, 0, 0, 0, 1, 0, 0);
        obeys(due, "t;0;1", 0, 0, 0, 0, 0, 0, 0, 0, 1, 0);
        obeys(due, "t;t;1", 0, 0, 0, 0, 0, 0, 0, 1, -1, 0);
        obeys(due, "0;t3;1+t2", 0, 0, 0, 0, 0, 0, 0, 1, 0, 0);
        obeys(due, "t3;0;1+t2", 0, 0, 0, 0, 0, 0, 0, 0, 1, 0);
        obeys(due, "1+t3;t3+t2;1+t3", 0, 0, 0, 0, 0, 0, 0, 1, 0, -1);
        obeys(due, "t3;1;t2", 0, 1, 0, 0, 0, 0, 0, 0, 0, -1);
        // all ten numbers, and all twelve told
        obeys(due, WIDE, 369277, -525267, 249711, -39641, 157764, -147528, 34692, 22656, -10368, 1024);
        BentShares x = Due.with(WIDE);
        for (int t = -3; t < 4; t++) {
            due.is("F is 0 at t " + t, valueOfWide(x, t), 0);
        }
    }

    /** F of WIDE at t, times W to the power 3. */
    private static long valueOfWide(BentShares x, long t) {
        long a = 1 - 2 * t + 3 * t * t - 4 * t * t * t;
        long b = 5 - 6 * t + 7 * t * t - 8 * t * t * t;
        long w = 9 - t + 2 * t * t + 3 * t * t * t;
        long[] f = Due.equation(x, 0);
        return f[0] * a * a * a + f[1] * a * a * b + f[2] * a * b * b + f[3] * b * b * b
            + w * (f[4] * a * a + f[5] * a * b + f[6] * b * b) + w * w * (f[7] * a + f[8] * b) + w * w * w * f[9];
    }

    private static void withoutDivisor(Due due) {
        due.sentence("its numbers whole without a common divisor");
        obeys(due, "2t;2;1", 0, 0, 0, 0, 0, 0, 0, 0, 1, -2);
        obeys(due, "9t;9t;8", 0, 0, 0, 0, 0, 0, 0, 1, -1, 0);
        obeys(due, "9t;9t2;1", 0, 0, 0, 0, 1, 0, 0, 0, -9, 0);
        obeys(due, "9t;9t3;1", 1, 0, 0, 0, 0, 0, 0, 0, -81, 0);
        obeys(due, "9t2;9t3;8", 8, 0, 0, 0, 0, 0, -9, 0, 0, 0);
        obeys(due, "8t2;4t3;9", 9, 0, 0, 0, 0, 0, -32, 0, 0, 0);
    }

    private static void firstAboveZero(Due due) {
        due.sentence("the first one that is not 0 in this order is above 0: (xxx, xxy, xyy, yyy, xx, xy, yy, x, y, 1)");
        for (String sign : new String[] {"", "-"}) {
            long s = sign.isEmpty() ? 1 : -1;
            obeys(due, "t;" + sign + "t3;1", 1, 0, 0, 0, 0, 0, 0, 0, -s, 0);
            obeys(due, "t3;" + sign + "1;t2", 0, 1, 0, 0, 0, 0, 0, 0, 0, -s);
            obeys(due, sign + "1;t3;t2", 0, 0, 1, 0, 0, 0, 0, 0, 0, -s);
            obeys(due, sign + "t3;t;1", 0, 0, 0, 1, 0, 0, 0, -s, 0, 0);
            obeys(due, "t;" + sign + "t2;1", 0, 0, 0, 0, 1, 0, 0, 0, -s, 0);
            obeys(due, "1;" + sign + "t2;t", 0, 0, 0, 0, 0, 1, 0, 0, 0, -s);
            obeys(due, sign + "t2;t;1", 0, 0, 0, 0, 0, 0, 1, -s, 0, 0);
            obeys(due, sign + "1;t;1", 0, 0, 0, 0, 0, 0, 0, 1, 0, -s);
            obeys(due, "t;" + sign + "1;1", 0, 0, 0, 0, 0, 0, 0, 0, 1, -s);
            obeys(due, "t;" + sign + "t;1", 0, 0, 0, 0, 0, 0, 0, 1, -s, 0);
        }
    }

    private static void ofHowManyTimes(Due due) {
        due.sentence("It is TOLD n by F's degree times (STRAIGHT: n times; others once)");
        Object[][] rows = {{"t;1;1", 1, 1}, {"t2;1;1", 1, 2}, {"t3;1;1", 1, 3}, {"1;1;t3", 1, 3}, {"t;t2;1", 2, 1},
            {"t;t2;t3+1", 3, 1}, {"t;t2;t3", 2, 1}, {"t;t2;t", 1, 1}, {"t3;t3+1;t3+2", 1, 3}};
        for (Object[] row : rows) {
            BentShares x = Due.with((String) row[0]);
            due.is("bends of " + row[0], x.bends(0), (Integer) row[1]);
            due.is("times of " + row[0], x.times(0), (Integer) row[2]);
        }
    }

    private static void firstAndLastNumber(Due due) {
        due.sentence("equation: The i-th number (0 .. 9) of THE EQUATION, in the order told.");
        BentShares x = Due.with(WIDE);
        due.is("i 0", x.equation(0, 0), 369277);
        due.is("i 9", x.equation(0, 9), 1024);
        due.is("i -1", x.equation(0, -1), -1 - Q);
        due.is("i 10", x.equation(0, 10), -1 - Q);
    }

    private static void noEquation(Due due) {
        due.sentence("equation, bends, times: NONE: a POINT");
        BentShares x = Due.with("0;0;1", "t3;t3;t3");
        for (int line = 0; line < 2; line++) {
            due.is("i 0", x.equation(line, 0), -4 - Q);
            due.is("i 9", x.equation(line, 9), -4 - Q);
            due.is("i 10 is BAD", x.equation(line, 10), -1 - Q);
            due.is("bends", x.bends(line), -4);
            due.is("times", x.times(line), -4);
        }
        // what was there before is of no help
        BentShares again = Due.with(CUBIC);
        Due.line(again, 0, "1;2;3");
        due.is("a POINT where a CUBIC was", again.equation(0, 0), -4 - Q);
        Due.line(again, 0, "t;t2;1");
        due.rows("a CONIC where both were", Due.equation(again, 0), 0, 0, 0, 0, 1, 0, 0, 0, -1, 0);
        Due.line(again, 0, "t;1;1");
        due.rows("a STRAIGHT one where all were", Due.equation(again, 0), 0, 0, 0, 0, 0, 0, 0, 0, 1, -1);
    }

    private static void edgesOfPlaces(Due due) {
        due.sentence("lies: at (x / z, y / z), -20 .. 20, z 1 .. 20");
        BentShares x = Due.with("t;t;1", "-t;t;1", "20t;1;20", "1+t3;9;1");
        for (int edge : new int[] {-20, 20}) {
            due.is("both " + edge, x.lies(0, edge, edge, 1), 1);
            due.is("both by 20: " + edge, x.lies(0, edge, edge, 20), 1);
            due.is("one beside " + edge, x.lies(0, edge, edge - Integer.signum(edge), 20), 0);
            due.is("other one beside " + edge, x.lies(0, edge - Integer.signum(edge), edge, 20), 0);
            due.is("turned " + edge, x.lies(1, edge, -edge, 1), 1);
            due.is("not turned " + edge, x.lies(1, edge, edge, 1), 0);
            due.is("x out " + edge, x.lies(0, edge + Integer.signum(edge), edge, 1), -1);
            due.is("y out " + edge, x.lies(0, edge, edge + Integer.signum(edge), 1), -1);
        }
        due.is("z 0", x.lies(0, 0, 0, 0), -1);
        due.is("z 1", x.lies(0, 0, 0, 1), 1);
        due.is("z 20", x.lies(0, 0, 0, 20), 1);
        due.is("z 21", x.lies(0, 0, 0, 21), -1);
        due.is("z -1", x.lies(0, 0, 0, -1), -1);
        due.is("z counts", x.lies(3, 18, 18, 2), 1);
        due.is("z counts, another", x.lies(3, 18, 18, 1), 0);
        // at the edges of a CUBIC with wide numbers
        BentShares wide = Due.with(WIDE, "1;2;1", "4t3;5t2;9");
        due.is("far out", wide.lies(0, 20, -20, 1), 0);
        due.is("FAR is there, too", Due.with("1-t3;t;2+t3").lies(0, -1, 0, 1), 1);
        due.is("t 0: 1/9 and 5/9", wide.lies(0, 1, 5, 9), 1);
        due.is("beside t 0", wide.lies(0, 1, 5, 8), 0);
        due.is("4/9 and 5/9", wide.lies(2, 4, 5, 9), 1);
        due.is("-4/9 and 5/9", wide.lies(2, -4, 5, 9), 1);
        due.is("-4/9 and -5/9", wide.lies(2, -4, -5, 9), 0);
    }

    private static void pointsThere(Due due) {
        due.sentence("lies: (of a POINT: whether it is there): 1, 0");
        BentShares x = Due.with("0;0;1", "9;-9;1", "-9;9;9", "1;2;9");
        due.is("0, 0", x.lies(0, 0, 0, 1), 1);
        due.is("0, 0 by 20", x.lies(0, 0, 0, 20), 1);
        due.is("1, 0", x.lies(0, 1, 0, 20), 0);
        due.is("0, -1", x.lies(0, 0, -1, 20), 0);
        due.is("9, -9", x.lies(1, 9, -9, 1), 1);
        due.is("18, -18 by 2", x.lies(1, 18, -18, 2), 1);
        due.is("9, 9", x.lies(1, 9, 9, 1), 0);
        due.is("-20, 20 by 20", x.lies(2, -20, 20, 20), 1);
        due.is("-20, 20 by 19", x.lies(2, -20, 20, 19), 0);
        due.is("2/18, 4/18", x.lies(3, 2, 4, 18), 1);
        due.is("2/18, 5/18", x.lies(3, 2, 5, 18), 0);
        due.is("1/18, 4/18", x.lies(3, 1, 4, 18), 0);
    }

    private static void lawIs(Due due, String text, long... law) {
        due.rows("law of " + text, Due.law(Due.with(text), 0), law);
    }

    private static void theLaw(Due due) {
        due.sentence("THE LAW: six whole numbers (..) without a common divisor, the first that is not 0 above 0");
        for (String sign : new String[] {"", "-"}) {
            long s = sign.isEmpty() ? 1 : -1;
            // t X = Y, X = t W times, t Y = W times, Y = t W times
            lawIs(due, "t2-1;" + sign + "t3" + (s < 0 ? "+t" : "-t") + ";1", 1, 0, 0, -s, 0, 0);
            lawIs(due, sign + "t;t3;1", 0, 1, 0, 0, -s, 0);
            lawIs(due, "t3;" + sign + "1;t", 0, 0, 1, 0, 0, -s);
            lawIs(due, "t3;" + sign + "t;1", 0, 0, 0, 1, -s, 0);
        }
        lawIs(due, "9t2;9t3;1", 1, 0, 0, -1, 0, 0);
        lawIs(due, "6t2;9t3;2", 3, 0, 0, -2, 0, 0);
        // all six
        long[] law = Due.law(Due.with(WIDE), 0);
        lawIs(due, WIDE, 80, -303, -28, 147, 32, -48);
        long[][] shares = {{1, -2, 3, -4}, {5, -6, 7, -8}, {9, -1, 2, 3}};
        for (int k = 0; k < 5; k++) {
            long sum = 0;
            for (int i = 0; i < 3; i++) {
                sum += (k > 0 ? law[2 * i] * shares[i][k - 1] : 0) + (k < 4 ? law[2 * i + 1] * shares[i][k] : 0);
            }
            due.is("A X + B Y + C W at t" + k, sum, 0);
        }
        BentShares x = Due.with(CUBIC);
        due.is("i 0", x.law(0, 0), 1);
        due.is("i 5", x.law(0, 5), 0);
        due.is("i -1", x.law(0, -1), -1 - T);
        due.is("i 6", x.law(0, 6), -1 - T);
    }

    private static void theLawToldAgain(Due due) {
        due.sentence("THE LAW of a CUBIC (one that is told where another one was)");
        BentShares x = Due.with(CUBIC);
        Due.line(x, 0, "t;t3;1");
        due.rows("law", Due.law(x, 0), 0, 1, 0, 0, -1, 0);
        due.rows("knot", Due.knot(x, 0), 0, 1, 0);
        due.is("crosses", x.crosses(0), 1);
        Due.line(x, 0, "t2+3;t3+t-2;1");
        due.rows("law again", Due.law(x, 0), 1, 0, 0, -1, -2, -2);
        due.rows("knot again", Due.knot(x, 0), 2, -2, 1);
        due.is("crosses again", x.crosses(0), 0);
        Due.line(x, 0, "t;t2;1");
        Due.line(x, 0, CUBIC);
        due.rows("law of the first again", Due.law(x, 0), 1, 0, 0, -1, 0, 0);
    }

    private static void knotIs(Due due, String text, int crosses, long... knot) {
        BentShares x = Due.with(text);
        due.rows("knot of " + text, Due.knot(x, 0), knot);
        due.is("crosses of " + text, x.crosses(0), crosses);
    }

    private static void theKnot(Due due) {
        due.sentence("Places are told by whole numbers without a common divisor, the last one that is not 0 above 0");
        knotIs(due, "t3;t;1", 1, 1, 0, 0);
        knotIs(due, "-t3;t;1", 1, 1, 0, 0);
        knotIs(due, "t;t3;1", 1, 0, 1, 0);
        knotIs(due, "t;-t3;1", 1, 0, 1, 0);
        knotIs(due, "t3+t;t3;1", 1, 1, 1, 0);
        knotIs(due, "2t3+t;-4t3;1", 1, -1, 2, 0);
        knotIs(due, "-2t3+t;4t3;1", 1, -1, 2, 0);
        knotIs(due, "t2-9;t3-8;1", 1, -9, -8, 1);
        knotIs(due, "9t2-6;9t3+3;9", 1, -2, 1, 3);
        knotIs(due, "9t2-6;9t3+3;-9", 1, 2, -1, 3);
        BentShares x = Due.with(CUBIC);
        due.is("which 0", x.knot(0, 0), 0);
        due.is("which 2", x.knot(0, 2), 1);
        due.is("which -1", x.knot(0, -1), -1 - T);
        due.is("which 3", x.knot(0, 3), -1 - T);
    }

    private static void howManyT(Due due) {
        due.sentence("it is a CROSSING (2), a CUSP (1), or ALONE (0) by how many t (real, FAR for one, t beyond all)");
        // X = t Q and Y = Q: the knot is (0 : 0 : 1), at the roots of Q, and beyond all for each degree that it lacks
        knotIs(due, "t3-t;t2-1;1", 2, 0, 0, 1);
        knotIs(due, "t3;t2;1", 1, 0, 0, 1);
        knotIs(due, "t3+t;t2+1;1", 0, 0, 0, 1);
        knotIs(due, "9t3-6t2+t;9t2-6t+1;1", 1, 0, 0, 1);
        knotIs(due, "9t3-7t2+t;9t2-7t+1;1", 2, 0, 0, 1);
        knotIs(due, "9t3-5t2+t;9t2-5t+1;1", 0, 0, 0, 1);
        knotIs(due, "t2+t;t+1;t3", 2, 0, 0, 1);
        knotIs(due, "t;1;t3", 1, 0, 0, 1);
        knotIs(due, "t3-t;1;t2-1", 2, 0, 1, 0);
        knotIs(due, "t3;1;t2", 1, 0, 1, 0);
        knotIs(due, "t3+t;1;t2+1", 0, 0, 1, 0);
        // only one number beside a CUSP
        knotIs(due, "4t3-4t2+t;4t2-4t+1;t3+3", 1, 0, 0, 1);
        knotIs(due, "4t3-5t2+t;4t2-5t+1;t3+3", 2, 0, 0, 1);
        knotIs(due, "5t3-4t2+t;5t2-4t+1;t3+3", 0, 0, 0, 1);
    }

    private static void anotherKind(Due due) {
        due.sentence("law, knot, crosses: CAST: another KIND");
        BentShares x = Due.with("1;1;1", "t3;1;1", "t;t2;1");
        for (int line = 0; line < 3; line++) {
            for (int i = 0; i < 6; i++) {
                due.is("law", x.law(line, i), -12 - T);
                due.is("knot", x.knot(line, i), i < 3 ? -12 - T : -1 - T);
            }
            due.is("crosses", x.crosses(line), -12);
        }
        // one number makes it a CUBIC
        Due.line(x, 1, "t3;1+t;1");
        due.is("a CUBIC", x.crosses(1), 1);
    }

    private static void eachRootOnce(Due due) {
        due.sentence("How many real t are roots, each once.");
        Object[][] rows = {{"9", 0}, {"9t", 1}, {"9t-9", 1}, {"t2", 1}, {"t2+1", 0}, {"t2-1", 2}, {"9t2-6t+1", 1},
            {"9t2-7t+1", 2}, {"9t2-5t+1", 0}, {"t3", 1}, {"9t3-9t2+3t", 1}, {"t3-9t2", 2}, {"t3-9t", 3}, {"t3+9t", 1},
            {"4t3-3t-1", 2}, {"4t3-3t+1", 2}, {"4t3-3t", 3}, {"4t3-3t-2", 1}, {"8t3-6t2+t", 3}, {"8t3-7t2+2t", 1},
            {"8t3-4t2-2t+1", 2}, {"8t3-4t2-3t+1", 3}, {"8t3-4t2-t+1", 1}, {"t3-6t2+9t-4", 2}, {"t3-6t2+9t-5", 1},
            {"t3-6t2+9t-3", 3}, {"2t3+3t2+t", 3}, {"t2+t", 2}, {"t2+t+1", 0}};
        for (Object[] row : rows) {
            for (String beside : new String[] {";t3+7t2+9;1", ";t2;t3+5"}) {
                BentShares x = Due.with(row[0] + beside);
                due.is("roots of " + row[0], x.meets(0, 1, 0, 0), (Integer) row[1]);
                due.is("roots of -" + row[0], x.meets(0, -1, 0, 0), (Integer) row[1]);
                due.is("roots of 20 times " + row[0], x.meets(0, 20, 0, 0), (Integer) row[1]);
            }
        }
        BentShares x = Due.with("1-t2;2t;1+t2");
        due.is("t beyond all is no root", x.meets(0, 1, 0, 1), 0);
        due.is("a root where W is 0 is one", Due.with("t;1;t2-1").meets(0, 1, -1, 0), 1);
    }

    private static void edgesOfStraights(Due due) {
        due.sentence("meets: a, b, c -20 .. 20, not a and b 0");
        BentShares x = Due.with("t;t3;1", "t;20;1", "t;9t2-8;1");
        due.is("20 0 -20", x.meets(0, 20, 0, -20), 1);
        due.is("-20 0 20", x.meets(0, -20, 0, 20), 1);
        due.is("0 20 20", x.meets(0, 0, 20, 20), 1);
        due.is("-20 20 0", x.meets(0, -20, 20, 0), 3);
        due.is("20 -20 -20", x.meets(0, 20, -20, -20), 1);
        due.is("20 20 20", x.meets(2, 20, 20, 20), 2);
        for (int out : new int[] {-21, 21}) {
            due.is("a " + out, x.meets(0, out, 1, 1), -1);
            due.is("b " + out, x.meets(0, 1, out, 1), -1);
            due.is("c " + out, x.meets(0, 1, 1, out), -1);
        }
        due.is("a and b 0", x.meets(0, 0, 0, 1), -1);
        due.is("all 0", x.meets(0, 0, 0, 0), -1);
        due.is("a 0", x.meets(0, 0, 1, 0), 1);
        due.is("b 0", x.meets(0, 1, 0, 0), 1);
        // 360t3 + 9t2 - 340t - 2, and 360t3 + 180t2 + 340t + 40
        BentShares wide = Due.with("9t3-9t;-9t3+8t;9t2-2", "9t3+9t;-9t3-8t;9t2+2");
        due.is("wide, three", wide.meets(0, 20, -20, 1), 3);
        due.is("wide, one", wide.meets(1, 20, -20, 20), 1);
    }

    private static void allOfIt(Due due) {
        due.sentence("meets: NONE: all of it lies there");
        BentShares x = Due.with("t3;2t3+1;1", "3;-2;1", "t;t2;1", "0;t;1");
        due.is("STRAIGHT", x.meets(0, 2, -1, 1), -4);
        due.is("STRAIGHT, as wide as can be", x.meets(0, -20, 10, -10), -4);
        due.is("STRAIGHT, beside", x.meets(0, 2, -1, 2), 0);
        due.is("a POINT", x.meets(1, 2, 3, 0), -4);
        due.is("a POINT, as wide as can be", x.meets(1, 6, -1, -20), -4);
        due.is("a POINT, beside", x.meets(1, 6, -1, -19), 0);
        due.is("a CONIC never", x.meets(2, 0, 1, 0), 1);
        due.is("x 0", x.meets(3, 1, 0, 0), -4);
        due.is("x 1 / 20", x.meets(3, 20, 0, -1), 0);
    }

    private static void theTouch(Due due) {
        due.sentence("THE TOUCH: numbers a, b, c .. without a common divisor, the first not 0 above 0");
        BentShares x = Due.with("t;t2;1", "-t;9;9", "9;t;9t2", "t2;-9t;3");
        due.rows("a alone is 0", Due.touch(x, 0, 0, 1), 0, 1, 0);
        due.rows("at 1", Due.touch(x, 0, 1, 1), 2, -1, -1);
        due.rows("at -1", Due.touch(x, 0, -1, 1), 2, 1, 1);
        due.rows("with a divisor", Due.touch(x, 0, 2, 1), 4, -1, -4);
        due.rows("b and c", Due.touch(x, 1, 3, 1), 0, 1, -1);
        due.rows("c alone", Due.touch(x, 2, 0, 1), 0, 0, 1);
        due.rows("a and c", Due.touch(x, 3, 0, 1), 1, 0, 0);
        due.rows("W counts", Due.touch(x, 3, 3, 1), 3, 2, 9);
    }

    private static void edgesOfTouch(Due due) {
        due.sentence("touch: at above / below (-20 .. 20 by 1 .. 20): 0 a, 1 b, 2 c");
        BentShares x = Due.with("t;t2;1", "t;t3;1");
        due.rows("20", Due.touch(x, 0, 20, 1), 40, -1, -400);
        due.rows("-20", Due.touch(x, 0, -20, 1), 40, 1, 400);
        due.rows("1/20", Due.touch(x, 0, 1, 20), 40, -400, -1);
        due.rows("-1/20", Due.touch(x, 0, -1, 20), 40, 400, 1);
        due.rows("20/20", Due.touch(x, 0, 20, 20), 2, -1, -1);
        due.rows("20 of a CUBIC", Due.touch(x, 1, 20, 1), 1200, -1, -16000);
        due.rows("1/20 of a CUBIC", Due.touch(x, 1, 1, 20), 30, -4000, -1);
        for (int[] wrong : new int[][] {{-21, 1, 0}, {21, 1, 0}, {1, 0, 0}, {1, 21, 0}, {1, 1, -1}, {1, 1, 3}}) {
            due.is("touch " + java.util.Arrays.toString(wrong), x.touch(0, wrong[0], wrong[1], wrong[2]), -1 - T);
        }
    }

    private static void noTouch(Due due) {
        due.sentence("touch: NONE: all are 0, or both places are one");
        BentShares x = Due.with("1;1;1", "t2;2t2;1", "t2-2t;t3-3t+9;1", "1;t3;t2");
        due.rows("a POINT", Due.touch(x, 0, 20, 1), NO_TOUCH);
        due.rows("what it grows by is 0", Due.touch(x, 1, 0, 20), NO_TOUCH);
        due.rows("beside it", Due.touch(x, 1, 1, 20), 2, -1, 0);
        due.rows("a CUSP at 1", Due.touch(x, 2, 1, 1), NO_TOUCH);
        due.rows("a CUSP at 20/20", Due.touch(x, 2, 20, 20), NO_TOUCH);
        due.rows("both are one where W is 0", Due.touch(x, 3, 0, 1), NO_TOUCH);
        // at 1 it is (2 : 2 : 4) and grows by (2 : 2 : 4)
        due.rows("both are one, not 0", Due.touch(Due.with("t2+1;2t;t3+t+2"), 0, 1, 1), NO_TOUCH);
        due.rows("beside that", Due.touch(Due.with("t2+1;2t;t3+t+3"), 0, 1, 1), 1, -1, 0);
    }

    private static void same(Due due) {
        due.sentence("same: Whether two LINES obey the same EQUATION (two POINTS: are the same): 1, 0");
        BentShares x = Due.with("0;0;1", "0;0;t", "t;t3;1", "t3;t;1");
        due.is("POINTS", x.same(0, 1), 1);
        due.is("a POINT and a CUBIC", x.same(0, 2), 0);
        due.is("a CUBIC and a POINT", x.same(2, 0), 0);
        due.is("two CUBICS", x.same(2, 3), 0);
        Due.line(x, 3, "1+t;1+3t+3t2+t3;1");
        due.is("told from elsewhere", x.same(2, 3), 1);
        Due.line(x, 3, "1;1;t3");
        Due.line(x, 2, "9t;9t;1");
        due.is("STRAIGHT, once and thrice", x.same(2, 3), 1);
        Due.line(x, 2, "9t;8t;1");
        due.is("STRAIGHT, another", x.same(2, 3), 0);
        String[] points = {"9;9;9", "8;9;9", "9;8;9", "9;9;8", "-9;9;9"};
        for (int i = 0; i < points.length; i++) {
            for (int j = 0; j < points.length; j++) {
                due.is(points[i] + " and " + points[j], Due.with(points[i], points[j]).same(0, 1), i == j ? 1 : 0);
            }
        }
    }
}
