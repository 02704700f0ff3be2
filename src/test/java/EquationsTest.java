/** Promises 10 to 19: equation, bends, times, lies, law, knot, crosses, meets, touch, same. */
public final class EquationsTest {
    private static final long T = 1000000000000L;
    private static final long Q = 1000000000000000L;
    private static final int[] NO_LINES = {-1, 4, Integer.MIN_VALUE, Integer.MAX_VALUE};
    private static final String CIRCLE = "1-t2;2t;1+t2";
    private static final String POINT = "6;-4;2";
    private static final String CUSP = "t2;t3;1";
    private static final String CROSSING = "t2-1;t3-t;1";
    private static final String ALONE = "t2+1;t3+t;1";

    public static void main(String[] args) {
        Due due = new Due("EquationsTest");
        equation(due);
        bendsAndTimes(due);
        lies(due);
        law(due);
        knot(due);
        crosses(due);
        meets(due);
        touch(due);
        same(due);
        due.end();
    }

    private static void obeys(Due due, String text, long... numbers) {
        BentShares x = Due.with(text);
        due.rows("equation of " + text, Due.equation(x, 0), numbers);
    }

    private static void equation(Due due) {
        obeys(due, "t;1;1", 0, 0, 0, 0, 0, 0, 0, 0, 1, -1);
        obeys(due, "1;t;3", 0, 0, 0, 0, 0, 0, 0, 3, 0, -1);
        obeys(due, "t2;1-t2;2t2+3", 0, 0, 0, 0, 0, 0, 0, 5, 3, -1);
        obeys(due, "t3;2t3;1", 0, 0, 0, 0, 0, 0, 0, 2, -1, 0);
        // the numbers of t to the power 1 are of no help here
        obeys(due, "t2;1;1", 0, 0, 0, 0, 0, 0, 0, 0, 1, -1);
        obeys(due, "2;t2;3", 0, 0, 0, 0, 0, 0, 0, 3, 0, -2);
        obeys(due, "t3;2;3", 0, 0, 0, 0, 0, 0, 0, 0, 3, -2);
        obeys(due, "1;t3;1", 0, 0, 0, 0, 0, 0, 0, 1, 0, -1);
        obeys(due, "t3+1;t3;2t3+2", 0, 0, 0, 0, 0, 0, 0, 2, 0, -1);
        obeys(due, "1+t;2+2t+t2;3+3t", 0, 0, 0, 0, 0, 0, 0, 3, 0, -1);
        obeys(due, "1+t+t2;2+2t+2t2-t3;1+t+t2", 0, 0, 0, 0, 0, 0, 0, 1, 0, -1);
        obeys(due, "1+t+t3;2;1", 0, 0, 0, 0, 0, 0, 0, 0, 1, -2);
        obeys(due, "t;t2;1", 0, 0, 0, 0, 1, 0, 0, 0, -1, 0);
        obeys(due, "t2;t;1", 0, 0, 0, 0, 0, 0, 1, -1, 0, 0);
        obeys(due, "1;t2;t", 0, 0, 0, 0, 0, 1, 0, 0, 0, -1);
        obeys(due, CIRCLE, 0, 0, 0, 0, 1, 0, 1, 0, 0, -1);
        // 9 x = 9 t, 4 y = 9 t2: 9 x x - 4 y
        obeys(due, "4t;9t2;4", 0, 0, 0, 0, 9, 0, 0, 0, -4, 0);
        obeys(due, CUSP, 1, 0, 0, 0, 0, 0, -1, 0, 0, 0);
        obeys(due, CROSSING, 1, 0, 0, 0, 1, 0, -1, 0, 0, 0);
        obeys(due, ALONE, 1, 0, 0, 0, -1, 0, -1, 0, 0, 0);
        obeys(due, "t;t3;1", 1, 0, 0, 0, 0, 0, 0, 0, -1, 0);
        obeys(due, "t3;t;1", 0, 0, 0, 1, 0, 0, 0, -1, 0, 0);
        // the leaf: x x x + y y y = 3 x y
        obeys(due, "3t;3t2;1+t3", 1, 0, 0, 1, 0, -3, 0, 0, 0, 0);
        // x y y = 1 and x x y = 1
        obeys(due, "1;t3;t2", 0, 0, 1, 0, 0, 0, 0, 0, 0, -1);
        obeys(due, "t3;1;t2", 0, 1, 0, 0, 0, 0, 0, 0, 0, -1);
        BentShares x = Due.with(CIRCLE, POINT);
        due.is("a POINT", x.equation(1, 0), -4 - Q);
        due.is("nothing", x.equation(2, 9), -2 - Q);
        for (int wrong : NO_LINES) {
            due.is("line " + wrong, x.equation(wrong, 0), -1 - Q);
        }
        for (int i : new int[] {-1, 10, Integer.MIN_VALUE, Integer.MAX_VALUE}) {
            due.is("i " + i, x.equation(0, i), -1 - Q);
            due.is("BAD is ahead of NONE: i " + i, x.equation(1, i), -1 - Q);
            due.is("BAD is ahead of NOT: i " + i, x.equation(2, i), -1 - Q);
        }
    }

    private static void bendsAndTimes(Due due) {
        Object[][] rows = {{"t;1;1", 1, 1}, {"t2;1-t2;2t2+3", 1, 2}, {"t3;2t3;1", 1, 3}, {"t3+t;t3+t+1;2", 1, 3},
            {CIRCLE, 2, 1}, {CUSP, 3, 1}, {"t3;t;1", 3, 1}, {"t3+t2;t2+t;t+1", 2, 1}};
        for (Object[] row : rows) {
            BentShares x = Due.with((String) row[0]);
            due.is("bends of " + row[0], x.bends(0), (Integer) row[1]);
            due.is("times of " + row[0], x.times(0), (Integer) row[2]);
        }
        BentShares x = Due.with(POINT);
        due.is("bends of a POINT", x.bends(0), BentShares.NONE);
        due.is("times of a POINT", x.times(0), BentShares.NONE);
        due.is("bends of nothing", x.bends(1), BentShares.NOT);
        due.is("times of nothing", x.times(1), BentShares.NOT);
        for (int wrong : NO_LINES) {
            due.is("bends " + wrong, x.bends(wrong), BentShares.BAD);
            due.is("times " + wrong, x.times(wrong), BentShares.BAD);
        }
    }

    private static void lies(Due due) {
        BentShares x = Due.with(CIRCLE, ALONE, POINT, "t2;1-t2;2t2+3");
        due.is("circle at (-1, 0), which is FAR", x.lies(0, -1, 0, 1), 1);
        due.is("circle at (3/5, 4/5)", x.lies(0, 3, 4, 5), 1);
        due.is("circle at (-12/20, -16/20)", x.lies(0, -12, -16, 20), 1);
        due.is("circle at (12/13, 5/13)", x.lies(0, 12, 5, 13), 1);
        due.is("circle at (12/13, 6/13)", x.lies(0, 12, 6, 13), 0);
        due.is("circle at (0, 0)", x.lies(0, 0, 0, 1), 0);
        due.is("the knot that is alone", x.lies(1, 0, 0, 1), 1);
        due.is("the knot that is alone, z 20", x.lies(1, 0, 0, 20), 1);
        due.is("(5, 10) of t 2", x.lies(1, 5, 10, 1), 1);
        due.is("(5, -10) of t -2", x.lies(1, 5, -10, 1), 1);
        due.is("(5, 11)", x.lies(1, 5, 11, 1), 0);
        due.is("(10/2, 20/2)", x.lies(1, 10, 20, 2), 1);
        due.is("a POINT is there", x.lies(2, 3, -2, 1), 1);
        due.is("a POINT is there, by 6", x.lies(2, 18, -12, 6), 1);
        due.is("a POINT: x", x.lies(2, 4, -2, 1), 0);
        due.is("a POINT: y", x.lies(2, 3, 2, 1), 0);
        due.is("a POINT: z", x.lies(2, 3, -2, 2), 0);
        due.is("STRAIGHT", x.lies(3, 2, -3, 1), 1);
        due.is("STRAIGHT, off", x.lies(3, 2, -3, 2), 0);
        int[][] wrong = {{-1, 0, 0, 1}, {4, 0, 0, 1}, {0, -21, 0, 1}, {0, 21, 0, 1}, {0, 0, -21, 1}, {0, 0, 21, 1},
            {0, 0, 0, 0}, {0, 0, 0, -1}, {0, 0, 0, 21}};
        for (int[] w : wrong) {
            due.is("lies " + java.util.Arrays.toString(w), x.lies(w[0], w[1], w[2], w[3]), BentShares.BAD);
        }
        x.drop(0);
        due.is("nothing", x.lies(0, 0, 0, 1), BentShares.NOT);
        due.is("BAD is ahead of NOT", x.lies(0, 0, 0, 0), BentShares.BAD);
        due.is("-20 and 20", x.lies(1, -20, 20, 20), 0);
        due.is("20 and -20", x.lies(2, 20, -20, 1), 0);
        Due.line(x, 0, "t;t;1");
        due.is("(20, 20)", x.lies(0, 20, 20, 20), 1);
        due.is("(-20, -20)", x.lies(0, -20, -20, 1), 1);
    }

    private static void law(Due due) {
        due.rows("law of " + CROSSING, Due.law(Due.with(CROSSING), 0), 1, 0, 0, -1, 0, 0);
        due.rows("law of t;t3;1", Due.law(Due.with("t;t3;1"), 0), 0, 1, 0, 0, -1, 0);
        due.rows("law of t3;t;1", Due.law(Due.with("t3;t;1"), 0), 0, 0, 0, 1, -1, 0);
        due.rows("law of the leaf", Due.law(Due.with("3t;3t2;1+t3"), 0), 1, 0, 0, -1, 0, 0);
        due.rows("law of 1;t3;t2", Due.law(Due.with("1;t3;t2"), 0), 0, 0, 0, 1, -1, 0);
        // (2t) X - 3 Y
        due.rows("law of 3t2;2t3;1", Due.law(Due.with("3t2;2t3;1"), 0), 2, 0, 0, -3, 0, 0);
        refusedAsLaw(due, true);
    }

    private static void refusedAsLaw(Due due, boolean law) {
        BentShares x = Due.with(CIRCLE, POINT, "t3;2t3;1");
        for (int line = 0; line < 3; line++) {
            due.is("another KIND " + line, law ? x.law(line, 0) : x.knot(line, 0), -12 - T);
            due.is("BAD is ahead of CAST", law ? x.law(line, 6) : x.knot(line, 3), -1 - T);
        }
        due.is("nothing", law ? x.law(3, 0) : x.knot(3, 0), -2 - T);
        due.is("BAD is ahead of NOT", law ? x.law(3, -1) : x.knot(3, -1), -1 - T);
        Due.line(x, 3, CUSP);
        for (int wrong : NO_LINES) {
            due.is("line " + wrong, law ? x.law(wrong, 0) : x.knot(wrong, 0), -1 - T);
        }
        for (int i : new int[] {-1, law ? 6 : 3, Integer.MIN_VALUE, Integer.MAX_VALUE}) {
            due.is("i " + i, law ? x.law(3, i) : x.knot(3, i), -1 - T);
        }
    }

    private static void knot(Due due) {
        due.rows("knot of " + CROSSING, Due.knot(Due.with(CROSSING), 0), 0, 0, 1);
        due.rows("knot of t;t3;1", Due.knot(Due.with("t;t3;1"), 0), 0, 1, 0);
        due.rows("knot of t3;t;1", Due.knot(Due.with("t3;t;1"), 0), 1, 0, 0);
        // moved by (3, -2), then by halves
        due.rows("knot of a moved one", Due.knot(Due.with("t2+2;t3-t-2;1"), 0), 3, -2, 1);
        due.rows("knot of a moved one by 2", Due.knot(Due.with("2t2-1;2t3+3;2"), 0), -1, 3, 2);
        // y (x x - 1) 1: it goes up without end at x 1 and at x -1
        due.rows("a knot where W is 0", Due.knot(Due.with("t3-t;1;t2-1"), 0), 0, 1, 0);
        due.rows("the last not 0 is above 0", Due.knot(Due.with("t3-t-1;1;t2-1"), 0), -1, 1, 0);
        refusedAsLaw(due, false);
    }

    private static void crosses(Due due) {
        // X and Y are t Q and Q, so THE KNOT is (0 : 0 : 1) and its t are the roots of Q: by Q
        Object[][] rows = {{CROSSING, 2}, {CUSP, 1}, {ALONE, 0}, {"t3-t;t2-1;t3+2", 2}, {"t3+t;t2+1;t3+2", 0},
            {"t3;t2;t3+2", 1}, {"t;1;t3", 1}, {"t;1;t3+t", 1}, {"t2-2t;t-2;t3", 2}, {"t3+2t2+t;t2+2t+1;1", 1},
            {"t3+t2-t;t2+t-1;1", 2}, {"t3+t2+t;t2+t+1;1", 0}, {"t3-2t;t2-2;1", 2}};
        for (Object[] row : rows) {
            BentShares x = Due.with((String) row[0]);
            due.is("crosses of " + row[0], x.crosses(0), (Integer) row[1]);
            due.rows("knot of " + row[0], Due.knot(x, 0), 0, 0, 1);
        }
        due.is("FAR twice", Due.with("t;t3;1").crosses(0), 1);
        due.is("FAR twice, the other way", Due.with("t3+t2;t;1").crosses(0), 1);
        due.is("where W is 0, twice", Due.with("t3-t;1;t2-1").crosses(0), 2);
        due.is("where W is 0, at no real t", Due.with("t3+t;1;t2+1").crosses(0), 0);
        // The knot by one real t and by t beyond all: X, Y are 0 at t 0 and of lower degree than W.
        due.is("a crossing with FAR", Due.with("3t;3t2;1+t3").crosses(0), 2);
        due.rows("its knot", Due.knot(Due.with("3t;3t2;1+t3"), 0), 0, 0, 1);
        BentShares x = Due.with(CIRCLE, POINT, "t3;2t3;1");
        for (int line = 0; line < 3; line++) {
            due.is("another KIND " + line, x.crosses(line), BentShares.CAST);
        }
        due.is("nothing", x.crosses(3), BentShares.NOT);
        for (int wrong : NO_LINES) {
            due.is("line " + wrong, x.crosses(wrong), BentShares.BAD);
        }
    }

    private static void meets(Due due) {
        BentShares x = Due.with("t;t3;1", CIRCLE, POINT, "t3;2t3;1");
        due.is("y 0: a root thrice", x.meets(0, 0, 1, 0), 1);
        due.is("y = x", x.meets(0, 1, -1, 0), 3);
        due.is("y = -x", x.meets(0, 1, 1, 0), 1);
        due.is("y = 3 x - 2: a root twice", x.meets(0, -3, 1, 2), 2);
        due.is("y = 3 x - 3", x.meets(0, -3, 1, 3), 1);
        due.is("y = 3 x - 1", x.meets(0, -3, 1, 1), 3);
        due.is("x = 20", x.meets(0, 1, 0, -20), 1);
        due.is("circle, through", x.meets(1, 2, 0, -1), 2);
        due.is("circle, touched", x.meets(1, 0, 1, -1), 1);
        due.is("circle, off", x.meets(1, 0, 1, -2), 0);
        due.is("circle, at FAR: t beyond all does not count", x.meets(1, 1, 0, 1), 0);
        due.is("circle, FAR and one t", x.meets(1, 1, 1, 1), 1);
        due.is("a POINT, off", x.meets(2, 1, 1, 0), 0);
        due.is("a POINT, on", x.meets(2, 1, 1, -1), BentShares.NONE);
        due.is("STRAIGHT, all", x.meets(3, -2, 1, 0), BentShares.NONE);
        due.is("STRAIGHT, all, by 10", x.meets(3, 20, -10, 0), BentShares.NONE);
        due.is("STRAIGHT, once", x.meets(3, 1, 1, -3), 1);
        due.is("STRAIGHT, beside", x.meets(3, -2, 1, 1), 0);
        for (int edge : new int[] {-20, 20}) {
            due.is("a " + edge, x.meets(1, edge, 0, 0), 2);
            due.is("b " + edge, x.meets(1, 0, edge, 0), 1);
            due.is("c " + edge, x.meets(1, 1, 1, edge), 0);
        }
        meetsRoots(due);
        int[][] wrong = {{-1, 1, 1, 1}, {4, 1, 1, 1}, {0, -21, 1, 1}, {0, 21, 1, 1}, {0, 1, -21, 1}, {0, 1, 21, 1},
            {0, 1, 1, -21}, {0, 1, 1, 21}, {0, 0, 0, 1}, {0, 0, 0, 0}};
        for (int[] w : wrong) {
            due.is("meets " + java.util.Arrays.toString(w), x.meets(w[0], w[1], w[2], w[3]), BentShares.BAD);
        }
        x.drop(0);
        due.is("nothing", x.meets(0, 1, 1, 1), BentShares.NOT);
        due.is("BAD is ahead of NOT", x.meets(0, 0, 0, 1), BentShares.BAD);
        due.is("W 0 there: still a root", Due.with("t;1;t2-1").meets(0, 1, -1, 0), 1);
    }

    /** X's roots: they are what x 0 meets. */
    private static void meetsRoots(Due due) {
        Object[][] rows = {{"t3-3t2+3t-1", 1}, {"t3+3t2+3t+1", 1}, {"8t3", 1}, {"t3+2t2+t", 2}, {"t3-t2-t+1", 2},
            {"t3-2t2-t+2", 3}, {"t3-4t2+5t-2", 2}, {"t3-5t2+8t-4", 2}, {"9t3+3t2-5t+1", 2}, {"9t3+3t2-5t+2", 1},
            {"9t3+3t2-6t+1", 3}, {"4t3-3t+1", 2}, {"4t3-3t+2", 1}, {"4t3-3t", 3}, {"-t3+t2", 2}, {"-t3+t2-1", 1},
            {"t3+t2+t+1", 1}, {"t2+t+1", 0}, {"t2+2t+1", 1}, {"9t2-6t+1", 1}, {"t2+3t+2", 2}, {"-t2+1", 2},
            {"4t2+5t+2", 0}, {"2t2+5t+3", 2}, {"t", 1}, {"9-t", 1}, {"5", 0}};
        for (Object[] row : rows) {
            BentShares x = Due.with(row[0] + ";t3+7t2+9;1");
            due.is("roots of " + row[0], x.meets(0, 1, 0, 0), (Integer) row[1]);
            due.is("roots of " + row[0] + ", turned", x.meets(0, -7, 0, 0), (Integer) row[1]);
        }
    }

    private static void touch(Due due) {
        BentShares x = Due.with(CIRCLE, CUSP, POINT, "t2;1-t2;2t2+3");
        due.rows("circle at 0", Due.touch(x, 0, 0, 1), 1, 0, -1);
        due.rows("circle at 1/2", Due.touch(x, 0, 1, 2), 3, 4, -5);
        due.rows("circle at 10/20", Due.touch(x, 0, 10, 20), 3, 4, -5);
        due.rows("circle at -1", Due.touch(x, 0, -1, 1), 0, 1, 1);
        due.rows("a CUSP at its knot", Due.touch(x, 1, 0, 1), -4 - T, -4 - T, -4 - T);
        due.rows("a CUSP at 1", Due.touch(x, 1, 1, 1), 3, -2, -1);
        due.rows("a CUSP at -20", Due.touch(x, 1, -20, 1), 30, 1, -4000);
        due.rows("a POINT", Due.touch(x, 2, 3, 1), -4 - T, -4 - T, -4 - T);
        due.rows("STRAIGHT where it turns", Due.touch(x, 3, 0, 1), -4 - T, -4 - T, -4 - T);
        due.rows("STRAIGHT", Due.touch(x, 3, 3, 2), 5, 3, -1);
        due.rows("where W is 0 twice", Due.touch(Due.with("1;t;t2"), 0, 0, 1), 0, 0, 1);
        due.rows("where W is 0", Due.touch(Due.with("1;t2;t"), 0, 0, 1), 0, 1, 0);
        due.rows("a CUSP where W is 0", Due.touch(Due.with("1;t3;t2"), 0, 0, 1), -4 - T, -4 - T, -4 - T);
        int[][] wrong = {{-1, 0, 1, 0}, {4, 0, 1, 0}, {0, -21, 1, 0}, {0, 21, 1, 0}, {0, 0, 0, 0}, {0, 0, -1, 0},
            {0, 0, 21, 0}, {0, 0, 1, -1}, {0, 0, 1, 3}, {1, 0, 1, 3}};
        for (int[] w : wrong) {
            due.is("touch " + java.util.Arrays.toString(w), x.touch(w[0], w[1], w[2], w[3]), -1 - T);
        }
        x.drop(0);
        due.is("nothing", x.touch(0, 0, 1, 0), -2 - T);
        due.is("BAD is ahead of NOT", x.touch(0, 0, 0, 0), -1 - T);
    }

    private static void same(Due due) {
        BentShares x = Due.with(CIRCLE, "2t;1-t2;1+t2", "t;2t;1", "t3;2t3;1");
        due.is("circle told otherwise", x.same(0, 1), 1);
        due.is("a LINE and itself", x.same(0, 0), 1);
        due.is("STRAIGHT, told otherwise", x.same(2, 3), 1);
        due.is("others", x.same(0, 2), 0);
        due.is("others, turned", x.same(3, 1), 0);
        for (int wrong : NO_LINES) {
            due.is("same " + wrong + ", 0", x.same(wrong, 0), BentShares.BAD);
            due.is("same 0, " + wrong, x.same(0, wrong), BentShares.BAD);
        }
        x.drop(0);
        due.is("nothing and a LINE", x.same(0, 1), BentShares.NOT);
        due.is("a LINE and nothing", x.same(1, 0), BentShares.NOT);
        due.is("nothing and itself", x.same(0, 0), BentShares.NOT);
        due.is("BAD is ahead of NOT", x.same(0, 4), BentShares.BAD);
        BentShares points = Due.with("6;-4;2", "3;-2;1", "3;2;1", "3t;1;1");
        due.is("POINTS, the same", points.same(0, 1), 1);
        due.is("POINTS, others", points.same(0, 2), 0);
        due.is("POINTS, others in x alone", Due.with("1;2;3", "2;2;3").same(0, 1), 0);
        due.is("POINTS, others in W alone", Due.with("1;2;3", "1;2;4").same(0, 1), 0);
        due.is("others in xxx alone", Due.with("t;t3;1", "t;2t3;1").same(0, 1), 0);
        due.is("others in 1 alone", Due.with("t;t3;1", "t;t3+1;1").same(0, 1), 0);
        due.is("a POINT and STRAIGHT", points.same(0, 3), 0);
        due.is("STRAIGHT and a POINT", points.same(3, 0), 0);
        Due.line(points, 0, "3t+1;1;1");
        due.is("STRAIGHT, begun elsewhere", points.same(0, 3), 1);
        Due.line(points, 0, "3t;2;1");
        due.is("STRAIGHT, beside", points.same(0, 3), 0);
    }
}
