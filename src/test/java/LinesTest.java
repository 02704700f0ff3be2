/** Promises 1 to 9: a new object, type, line, drop, kind, degree, told, at, far. */
public final class LinesTest {
    private static final long T = 1000000000000L;
    private static final int[] NO_LINES = {-1, 4, Integer.MIN_VALUE, Integer.MAX_VALUE};

    public static void main(String[] args) {
        Due due = new Due("LinesTest");
        newObject(due);
        type(due);
        readTexts(due);
        faults(due);
        lineRefusals(due);
        plain(due);
        drop(due);
        kindAndDegree(due);
        told(due);
        at(due);
        far(due);
        due.end();
    }

    private static void newObject(Due due) {
        BentShares x = new BentShares();
        for (int i = 0; i < 4; i++) {
            due.is("new: kind", x.kind(i), BentShares.NOT);
            due.is("new: away", x.away(i), BentShares.NULL);
        }
        due.is("new: the tape is empty", x.type('t', 1), 1);
        BentShares other = new BentShares();
        due.is("objects share no tape", other.type('t', 1), 1);
        Due.line(x, 0, ";t;1");
        due.is("objects share no lines", other.kind(0), BentShares.NOT);
    }

    private static void type(Due due) {
        BentShares x = new BentShares();
        due.is("one byte", x.type('t', 1), 1);
        due.is("higher bytes count for nothing", x.type(0xffffffffffff003bL, 1), 2);
        due.is("the highest first", x.type(0x74323b31L, 4), 6);
        due.is("t;t2;1", x.line(0), 2);
        due.is("eight bytes", x.type(0x2020202020202020L, 8), 8);
        for (int n : new int[] {0, -1, 9, Integer.MIN_VALUE, Integer.MAX_VALUE}) {
            due.is("n " + n, x.type(0x2020202020202020L, n), BentShares.BAD);
        }
        due.is("byte 31", x.type(0x201fL, 2), BentShares.BAD);
        due.is("byte 127", x.type(0x7f20L, 2), BentShares.BAD);
        due.is("byte 255", x.type(0xffL, 1), BentShares.BAD);
        due.is("byte 128 of eight", x.type(0x8020202020202020L, 8), BentShares.BAD);
        due.is("byte 0 above", x.type(0x20L, 2), BentShares.BAD);
        due.is("bytes 32 and 126", x.type(0x207eL, 2), 10);
        for (int i = 0; i < 9; i++) {
            x.type(0x2020202020202020L, 8);
        }
        due.is("82 and 7", x.type(0x20202020202020L, 7), 89);
        due.is("89 and 2", x.type(0x2020L, 2), BentShares.FULL);
        due.is("BAD is ahead of FULL", x.type(0x201fL, 2), BentShares.BAD);
        due.is("89 and 1", x.type(0x20L, 1), 90);
        due.is("90 and 1", x.type(0x20L, 1), BentShares.FULL);
        due.is("the byte 126 is still there", x.line(0), -20 - 9);
        due.is("empty then", x.type(0x20L, 1), 1);
    }

    private static void reads(Due due, String text, int kind, long... numbers) {
        BentShares x = new BentShares();
        due.is(text, Due.line(x, 0, text), kind);
        due.rows(text, Due.told(x, 0), numbers);
        due.is(text + ": the tape is empty then", x.type('t', 1), 1);
    }

    private static void readTexts(Due due) {
        reads(due, "t;t2;1", 2, 0, 1, 0, 0, 0, 0, 1, 0, 1, 0, 0, 0);
        reads(due, "-9+8t-7t2+6t3;5-4t;3+2t3", 3, -9, 8, -7, 6, 5, -4, 0, 0, 3, 0, 0, 2);
        reads(due, "-t;t;1", 1, 0, -1, 0, 0, 0, 1, 0, 0, 1, 0, 0, 0);
        reads(due, "0t;0t2+1;t", 1, 0, 0, 0, 0, 1, 0, 0, 0, 0, 1, 0, 0);
        reads(due, "t+t-t+t2+3t;t2-t2;1", 1, 0, 4, 1, 0, 0, 0, 0, 0, 1, 0, 0, 0);
        reads(due, " - 2 t 3 + t ; 4 ; 1 + t ", 3, 0, 1, 0, -2, 4, 0, 0, 0, 1, 1, 0, 0);
        reads(due, "07t;t2;001", 2, 0, 7, 0, 0, 0, 0, 1, 0, 1, 0, 0, 0);
        reads(due, "99t-90t;t2;99-98", 2, 0, 9, 0, 0, 0, 0, 1, 0, 1, 0, 0, 0);
        reads(due, "99;66;33", 0, 3, 0, 0, 0, 2, 0, 0, 0, 1, 0, 0, 0);
        reads(due, "t3;t2 +1;  t3+1", 3, 0, 0, 0, 1, 1, 0, 1, 0, 1, 0, 0, 1);
        reads(due, "-0;-0t3;-0-1", 0, 0, 0, 0, 0, 0, 0, 0, 0, 1, 0, 0, 0);
        StringBuilder many = new StringBuilder("t;t2;1");
        while (many.length() < 88) {
            many.append("+0");
        }
        reads(due, many.append(" ").append(" ").toString(), 2, 0, 1, 0, 0, 0, 0, 1, 0, 1, 0, 0, 0);
    }

    private static void fault(Due due, String text, int place) {
        BentShares x = Due.with("t;t3;1");
        due.is("fault of '" + text + "'", Due.line(x, 0, text), -20 - place);
        due.is("fault of '" + text + "': the LINE stays", x.kind(0), 3);
        due.is("fault of '" + text + "': the tape is empty then", x.type('t', 1), 1);
    }

    private static void faults(Due due) {
        fault(due, "", 0);
        fault(due, "   ", 3);
        fault(due, "t", 1);
        fault(due, "t ", 2);
        fault(due, "t;", 2);
        fault(due, "t;t", 3);
        fault(due, "t;t;", 4);
        fault(due, "t;t;  ", 6);
        fault(due, ";t;1", 0);
        fault(due, "t;;1", 2);
        fault(due, "t;t;1;", 5);
        fault(due, "t;t;1 ;1", 6);
        fault(due, "+t;t;1", 0);
        fault(due, "t;+t;1", 2);
        fault(due, "--t;t;1", 1);
        fault(due, "-+t;t;1", 1);
        fault(due, "t+;t;1", 2);
        fault(due, "t+-t;t;1", 2);
        fault(due, "t- ;t;1", 3);
        fault(due, "t;t;-", 5);
        fault(due, "t0;t;1", 1);
        fault(due, "t1;t;1", 1);
        fault(due, "t4;t;1", 1);
        fault(due, "t 4;t;1", 2);
        fault(due, "t22;t;1", 2);
        fault(due, "t2 3;t;1", 3);
        fault(due, "tt;t;1", 1);
        fault(due, "t2t;t;1", 2);
        fault(due, "1 2;t;1", 2);
        fault(due, "1  2t;t;1", 3);
        fault(due, "9 9;t;1", 2);
        fault(due, "100;t;1", 0);
        fault(due, "t; 100t;1", 3);
        fault(due, "t-1000x;t;1", 2);
        fault(due, "0100;t;1", 0);
        fault(due, "t;t;99999999999999999999999999999999999999999999999999", 4);
        fault(due, "t;t;100", 4);
        fault(due, "1;t;x", 4);
        fault(due, "1;  T;1", 4);
        fault(due, "2*t;t;1", 1);
        fault(due, "1.5;t;1", 1);
        fault(due, "~", 0);
        fault(due, "t2;t:1", 4);
        fault(due, "t/t;1;1", 1);
    }

    private static void lineRefusals(Due due) {
        BentShares x = new BentShares();
        Due.put(x, "t;t2;1");
        for (int line : NO_LINES) {
            due.is("line " + line, x.line(line), BentShares.BAD);
        }
        due.is("BAD: the tape stays", x.type(' ', 1), 7);
        due.is("BAD: the tape is read later", x.line(3), 2);
        due.is("W is 0", Due.line(x, 3, "t;1;0"), BentShares.NOT);
        due.is("W is 0 after all", Due.line(x, 3, "t;1;t-t"), BentShares.NOT);
        due.is("beyond 9", Due.line(x, 3, "10t;t2;1"), BentShares.NOT);
        due.is("beyond -9", Due.line(x, 3, "t2;-10t+1;1"), BentShares.NOT);
        due.is("beyond 9 in W", Due.line(x, 3, "t2;t;11"), BentShares.NOT);
        due.is("beyond 9 in W's t3", Due.line(x, 3, "t2;t;1+10t3"), BentShares.NOT);
        due.is("NOT: the LINE stays", x.kind(3), 2);
        due.is("NOT: the tape is empty then", x.type(' ', 1), 1);
        due.is("a fault is ahead of NOT", Due.line(x, 3, "t;1;0;"), -20 - 6);
        due.is("a LINE is another one", Due.line(x, 3, "1;2;3"), 0);
    }

    private static void plain(Due due) {
        reads(due, "6t;3t2;3", 2, 0, 2, 0, 0, 0, 0, 1, 0, 1, 0, 0, 0);
        reads(due, "20t;10t2;10", 2, 0, 2, 0, 0, 0, 0, 1, 0, 1, 0, 0, 0);
        reads(due, "t;t2;-1", 2, 0, -1, 0, 0, 0, 0, -1, 0, 1, 0, 0, 0);
        reads(due, "t;t2;9-t3", 3, 0, -1, 0, 0, 0, 0, -1, 0, -9, 0, 0, 1);
        reads(due, "t3;t2;t", 2, 0, 0, 1, 0, 0, 1, 0, 0, 1, 0, 0, 0);
        reads(due, "t3+t2;t2+t;t+1", 2, 0, 0, 1, 0, 0, 1, 0, 0, 1, 0, 0, 0);
        reads(due, "t3;t3;t3", 0, 1, 0, 0, 0, 1, 0, 0, 0, 1, 0, 0, 0);
        reads(due, "0;0;t", 0, 0, 0, 0, 0, 0, 0, 0, 0, 1, 0, 0, 0);
        reads(due, "0;t2;t3", 1, 0, 0, 0, 0, 1, 0, 0, 0, 0, 1, 0, 0);
        // t2 + t + 1 has no real root, yet it divides
        reads(due, "t3-1;t2+t+1;t3+2t2+2t+1", 1, -1, 1, 0, 0, 1, 0, 0, 0, 1, 1, 0, 0);
        // (2t - 3) (t + 1), (2t - 3) (t2 + 1), (2t - 3) 4
        reads(due, "2t2-t-3;2t3-3t2+2t-3;8t-12", 2, 1, 1, 0, 0, 1, 0, 1, 0, 4, 0, 0, 0);
        // (7t - 11) (t2 - t), (7t - 11) (t2 + 1), (7t - 11) (3 - t)
        reads(due, "7t3-18t2+11t;7t3-11t2+7t-11;-7t2+32t-33", 2, 0, 1, -1, 0, -1, 0, -1, 0, -3, 1, 0, 0);
        // what divides two of three stays
        reads(due, "t2-1;t-1;t+2", 2, -1, 0, 1, 0, -1, 1, 0, 0, 2, 1, 0, 0);
        reads(due, "2t;4t2;3", 2, 0, 2, 0, 0, 0, 0, 4, 0, 3, 0, 0, 0);
        // twice the same root
        reads(due, "t3;t2;t3+t2", 1, 0, 1, 0, 0, 1, 0, 0, 0, 1, 1, 0, 0);
        reads(due, "9-9t3;9;9t3", 1, 1, 0, 0, -1, 1, 0, 0, 0, 0, 0, 0, 1);
    }

    private static void drop(Due due) {
        BentShares x = Due.with("1;2;3", "t;2;3", "t;t2;3", "t;t3;3");
        for (int line : NO_LINES) {
            due.is("drop " + line, x.drop(line), BentShares.BAD);
        }
        for (int i = 0; i < 4; i++) {
            due.is("drop", x.drop(i), i);
            due.is("drop again", x.drop(i), BentShares.NOT);
            due.is("dropped", x.kind(i), BentShares.NOT);
            due.is("the next one stays", x.kind(3), i == 3 ? BentShares.NOT : 3);
        }
        due.is("line again", Due.line(x, 0, "t;t2;1"), 2);
        due.is("kind again", x.kind(0), 2);
    }

    private static void kindAndDegree(Due due) {
        BentShares x = Due.with("t;t;2", "t2;1-t2;2t2+3", "t3;2t3;1", "t3;t;1");
        for (int line : NO_LINES) {
            due.is("kind " + line, x.kind(line), BentShares.BAD);
            due.is("degree " + line, x.degree(line), BentShares.BAD);
        }
        int[] kinds = {1, 1, 1, 3};
        int[] degrees = {1, 2, 3, 3};
        for (int i = 0; i < 4; i++) {
            due.is("kind " + i, x.kind(i), kinds[i]);
            due.is("degree " + i, x.degree(i), degrees[i]);
            x.drop(i);
            due.is("kind of nothing", x.kind(i), BentShares.NOT);
            due.is("degree of nothing", x.degree(i), BentShares.NOT);
        }
        Object[][] told = {{"5;-7;2", 0, 0}, {"t2;t;1+t2", 2, 2}, {"t2;t2+t;t", 1, 1}, {"t3;t2;1", 3, 3},
            {"t3+t;t2+1;t+1", 3, 3}, {"t3;t2;t+t3+t2", 2, 2}, {"1;t;t3+t", 3, 3}, {"1;t;t3", 3, 3},
            {"t3-t2;t3+t;t2+t", 1, 2}, {"t3+t;t2-1;t3+t+t2-1", 1, 3}, {"1;1;t3", 1, 3}, {"t;t2;t3", 2, 2}};
        for (Object[] row : told) {
            String text = (String) row[0];
            Due.line(x, 0, text);
            due.is("kind of " + text, x.kind(0), (Integer) row[1]);
            due.is("degree of " + text, x.degree(0), (Integer) row[2]);
        }
    }

    private static void told(Due due) {
        BentShares x = Due.with("1-2t+3t2-4t3;5-6t+7t2-8t3;9-t+2t2+3t3");
        due.rows("told", Due.told(x, 0), 1, -2, 3, -4, 5, -6, 7, -8, 9, -1, 2, 3);
        for (int wrong : NO_LINES) {
            due.is("line " + wrong, x.told(wrong, 0, 0), -1001);
            due.is("k " + wrong, x.told(0, 0, wrong), -1001);
        }
        due.is("which -1", x.told(0, -1, 0), -1001);
        due.is("which 3", x.told(0, 3, 0), -1001);
        due.is("nothing", x.told(1, 2, 3), -1002);
        due.is("BAD is ahead of NOT", x.told(1, 3, 3), -1001);
    }

    private static void at(Due due) {
        BentShares x = Due.with("1-t2;2t;1+t2", "t;1;t2-1", "6;-4;2", "t3;t2-4;2-4t");
        due.rows("circle at 0", Due.place(x, 0, 0, 1), 1, 1, 0, 1);
        due.rows("circle at 1/2", Due.place(x, 0, 1, 2), 3, 5, 4, 5);
        due.rows("circle at 10/20", Due.place(x, 0, 10, 20), 3, 5, 4, 5);
        due.rows("circle at -20", Due.place(x, 0, -20, 1), -399, 401, -40, 401);
        due.rows("circle at 19/20", Due.place(x, 0, 19, 20), 39, 761, 760, 761);
        due.rows("circle at 20", Due.place(x, 0, 20, 1), -399, 401, 40, 401);
        due.rows("circle at -1/20", Due.place(x, 0, -1, 20), 399, 401, -40, 401);
        due.rows("W is 0", Due.place(x, 1, 1, 1), -4 - T, -4 - T, -4 - T, -4 - T);
        due.rows("W is 0 at -3/3", Due.place(x, 1, -3, 3), -4 - T, -4 - T, -4 - T, -4 - T);
        due.rows("W is below 0", Due.place(x, 1, 1, 2), -2, 3, -4, 3);
        due.rows("a POINT", Due.place(x, 2, 7, 3), 3, 1, -2, 1);
        due.rows("a CUBIC at 2", Due.place(x, 3, 2, 1), -4, 3, 0, 1);
        due.rows("a CUBIC at 1/2", Due.place(x, 3, 1, 2), -4 - T, -4 - T, -4 - T, -4 - T);
        int[][] wrong = {{-1, 0, 1, 0, 0}, {4, 0, 1, 0, 0}, {0, -21, 1, 0, 0}, {0, 21, 1, 0, 0}, {0, 0, 0, 0, 0},
            {0, 0, -1, 0, 0}, {0, 0, 21, 0, 0}, {0, 0, 1, -1, 0}, {0, 0, 1, 2, 0}, {0, 0, 1, 0, -1}, {0, 0, 1, 0, 2},
            {0, Integer.MIN_VALUE, 1, 0, 0}, {0, 0, Integer.MIN_VALUE, 0, 0}, {1, 1, 1, 2, 0}};
        for (int[] w : wrong) {
            due.is("at " + java.util.Arrays.toString(w), x.at(w[0], w[1], w[2], w[3], w[4]), -1 - T);
        }
        x.drop(0);
        due.is("nothing", x.at(0, 0, 1, 0, 0), -2 - T);
        due.is("BAD is ahead of NOT", x.at(0, 0, 0, 0, 0), -1 - T);
    }

    private static void far(Due due) {
        BentShares x = Due.with("1-t2;2t;1+t2", "t;t3;1", "6;-4;2", "9t3-t;-8t3;7t3+1");
        due.rows("circle", Due.far(x, 0), -1, 0, 1);
        due.rows("t;t3;1", Due.far(x, 1), 0, 1, 0);
        due.rows("a POINT", Due.far(x, 2), 3, -2, 1);
        due.rows("as they stand", Due.far(x, 3), 9, -8, 7);
        Due.line(x, 0, "2t2;4t2+1;6t2");
        due.rows("with a common divisor", Due.far(x, 0), 2, 4, 6);
        for (int wrong : NO_LINES) {
            due.is("line " + wrong, x.far(wrong, 0), -1001);
        }
        due.is("which -1", x.far(0, -1), -1001);
        due.is("which 3", x.far(0, 3), -1001);
        x.drop(0);
        due.is("nothing", x.far(0, 2), -1002);
        due.is("BAD is ahead of NOT", x.far(0, 3), -1001);
    }
}
