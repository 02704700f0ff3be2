/** The sentences of promises 1 to 9, and of "1 LINES 0 .. 3", that name an edge: a test for each of them. */
public final class LinesEdgesTest {
    private static final long T = 1000000000000L;
    private static final long EIGHT_BLANKS = 0x2020202020202020L;
    private static final String CUBIC = "t2-1;t3-t;1";

    public static void main(String[] args) {
        Due due = new Due("LinesEdgesTest");
        newObject(due);
        calls(due);
        fourLines(due);
        upToNine(due);
        beyondNineThen(due);
        noW(due);
        divisorsTakenOff(due);
        highestOfW(due);
        greatestDegree(due);
        noPlace(due);
        far(due);
        kinds(due);
        oneToEightBytes(due);
        printableBytes(due);
        highestFirst(due);
        ninety(due);
        tapeIsEmptyThen(due);
        tapeStays(due);
        threePolynomials(due);
        oneOrMoreTerms(due);
        signs(due);
        numbers(due);
        lettersAndPowers(due);
        addedPowers(due);
        theEnd(due);
        blanks(due);
        aboveNinetyNine(due);
        notALine(due);
        itWasNothing(due);
        edgesOfT(due);
        due.end();
    }

    private static void newObject(Due due) {
        due.sentence("BentShares(): No LINES, nothing in SHEETS.");
        for (int i = 0; i < 4; i++) {
            BentShares x = new BentShares();
            due.is("drop", x.drop(i), -2);
            due.is("kind", x.kind(i), -2);
            due.is("told", x.told(i, 0, 0), -1002);
            due.is("copy", x.copy(i, 0), -2);
            due.is("away", x.away(i), -11);
            due.is("the tape is empty", x.line(i), -20);
            due.is("the tape has nothing", x.type('t', 1), 1);
        }
    }

    private static void calls(Due due) {
        due.sentence("An object is used for at most 512 calls after it has been made");
        BentShares x = new BentShares();
        for (int i = 0; i < 64; i++) {
            due.is("type", x.type(0x743b74323b31L, 6), 6);
            due.is("line", x.line(i % 4), 2);
            due.is("anew", x.anew(i % 4, 0, 1, 1, 0), 2);
            due.is("sheet", x.sheet(i % 4, i % 3, 20), 20);
            due.is("item", x.item(i % 4, i % 3, 19, i), 1);
            due.is("terms", x.terms(i % 4, i % 4, i % 3, 0), -2);
            due.is("copy", x.copy(i % 4, (i + 1) % 4), 2);
            due.is("lies", x.lies((i + 1) % 4, 2, 4, 1), 1);
        }
    }

    private static void fourLines(Due due) {
        due.sentence("LINES 0 .. 3 are nothing (at first), or three polynomials");
        BentShares x = new BentShares();
        String[] texts = {"1;2;3", "t;2;3", "t;t2;3", "t;t3;3"};
        for (int line = 0; line < 4; line++) {
            due.is("told", Due.line(x, line, texts[line]), line);
            for (int other = 0; other < 4; other++) {
                due.is("line " + other + " of " + (line + 1), x.kind(other), other <= line ? other : -2);
            }
        }
        due.rows("the first", Due.told(x, 0), 1, 0, 0, 0, 2, 0, 0, 0, 3, 0, 0, 0);
        due.rows("the last", Due.told(x, 3), 0, 1, 0, 0, 0, 0, 0, 1, 3, 0, 0, 0);
    }

    private static void upToNine(Due due) {
        due.sentence("whole numbers -9 .. 9");
        for (int i = 0; i < 12; i++) {
            for (int number : new int[] {-10, -9, 9, 10}) {
                long[] numbers = {1, 2, 3, 4, 5, 1, -2, 3, 7, -1, 2, 1};
                numbers[i] = number;
                BentShares x = Due.with("t;t2;1");
                boolean fits = Math.abs(number) <= 9;
                due.is("number " + i + " is " + number, Due.terms(x, 0, numbers), fits ? 3 : -2);
                for (int k = 0; k < 12; k++) {
                    numbers[k] *= i == 11 && number < 0 ? -1 : 1;
                }
                due.rows("number " + i + " is " + number, Due.told(x, 0),
                    fits ? numbers : new long[] {0, 1, 0, 0, 0, 0, 1, 0, 1, 0, 0, 0});
            }
        }
    }

    private static void reads(Due due, String text, int kind, long... numbers) {
        BentShares x = new BentShares();
        due.is(text, Due.line(x, 0, text), kind);
        due.rows(text, Due.told(x, 0), numbers);
    }

    /** The LINE that was there stays, and THE TAPE is empty then. */
    private static void refuses(Due due, String text, int answer) {
        BentShares x = Due.with(CUBIC);
        due.is("'" + text + "'", Due.line(x, 0, text), answer);
        due.rows("'" + text + "': the LINE", Due.told(x, 0), -1, 0, 1, 0, 0, -1, 0, 1, 1, 0, 0, 0);
        due.is("'" + text + "': the tape", x.type('t', 1), 1);
    }

    private static void fault(Due due, String text, int place) {
        refuses(due, text, -20 - place);
    }

    private static void beyondNineThen(Due due) {
        due.sentence("(Beyond 9 then: a LINE can't be told so.)");
        reads(due, "90t;80;70t2", 2, 0, 9, 0, 0, 8, 0, 0, 0, 0, 0, 7, 0);
        reads(due, "99;99;99", 0, 1, 0, 0, 0, 1, 0, 0, 0, 1, 0, 0, 0);
        reads(due, "18t;12t2;4", 2, 0, 9, 0, 0, 0, 0, 6, 0, 2, 0, 0, 0);
        refuses(due, "20t;12t2;4+2t", -2);
        // (t + 1) (9t2 + 9t + 9), and (t + 1) (5t2 - 10t + 5), whose numbers are lower before than then
        reads(due, "9t3+18t2+18t+9;t+1;t+1", 1, 9, 9, 9, 0, 1, 0, 0, 0, 1, 0, 0, 0);
        refuses(due, "5t3-5t2-5t+5;t+1;t+1", -2);
        refuses(due, "t+1;5t3-5t2-5t+5;t+1", -2);
        refuses(due, "t+1;t+1;5t3-5t2-5t+5", -2);
    }

    private static void noW(Due due) {
        due.sentence("W not 0");
        for (String w : new String[] {"0", "-0", "0t", "0t2", "0t3", "0+0t-0t3", "t3-t3", "1+t2-1-t2", "99t-98t-t"}) {
            refuses(due, "t;1;" + w, -2);
            refuses(due, "0;0;" + w, -2);
        }
        reads(due, "0;0;1", 0, 0, 0, 0, 0, 0, 0, 0, 0, 1, 0, 0, 0);
        reads(due, "0;0;99t3", 0, 0, 0, 0, 0, 0, 0, 0, 0, 1, 0, 0, 0);
    }

    private static void divisorsTakenOff(Due due) {
        due.sentence("what divides all three (a polynomial, a whole number) is taken off");
        reads(due, "2;4t;2", 1, 1, 0, 0, 0, 0, 2, 0, 0, 1, 0, 0, 0);
        reads(due, "9;9t;9t3", 3, 1, 0, 0, 0, 0, 1, 0, 0, 0, 0, 0, 1);
        reads(due, "2;4t;3", 1, 2, 0, 0, 0, 0, 4, 0, 0, 3, 0, 0, 0);
        // degrees 1, 2, 3, then all of them
        reads(due, "t2-t;3t-3;t3-t2", 2, 0, 1, 0, 0, 3, 0, 0, 0, 0, 0, 1, 0);
        reads(due, "t3+t;3t2+3;t2+1", 1, 0, 1, 0, 0, 3, 0, 0, 0, 1, 0, 0, 0);
        reads(due, "2t3-6t2+2;t3-3t2+1;3t3-9t2+3", 0, 2, 0, 0, 0, 1, 0, 0, 0, 3, 0, 0, 0);
        reads(due, "0;t3;t2", 1, 0, 0, 0, 0, 0, 1, 0, 0, 1, 0, 0, 0);
        reads(due, "t3;0;t2", 1, 0, 1, 0, 0, 0, 0, 0, 0, 1, 0, 0, 0);
        // a divisor of two of three
        reads(due, "t;t2;t+1", 2, 0, 1, 0, 0, 0, 0, 1, 0, 1, 1, 0, 0);
        reads(due, "t;t+1;t2", 2, 0, 1, 0, 0, 1, 1, 0, 0, 0, 0, 1, 0);
        reads(due, "t+1;t;t2", 2, 1, 1, 0, 0, 0, 1, 0, 0, 0, 0, 1, 0);
        // 3t - 2 with a number of its own: 2 (3t - 2), 4 (3t - 2) t, 6 (3t - 2) t2
        reads(due, "6t-4;12t2-8t;18t3-12t2", 2, 1, 0, 0, 0, 0, 2, 0, 0, 0, 0, 3, 0);
    }

    private static void highestOfW(Due due) {
        due.sentence("the highest number of W is above 0");
        reads(due, "1;-t;-1", 1, -1, 0, 0, 0, 0, 1, 0, 0, 1, 0, 0, 0);
        reads(due, "1;t2;9-t", 2, -1, 0, 0, 0, 0, 0, -1, 0, -9, 1, 0, 0);
        reads(due, "1;t3;9+9t-t2", 3, -1, 0, 0, 0, 0, 0, 0, -1, -9, -9, 1, 0);
        reads(due, "1;t;9+9t+9t2-t3", 3, -1, 0, 0, 0, 0, -1, 0, 0, -9, -9, -9, 1);
        reads(due, "1;t;t3-9-9t-9t2", 3, 1, 0, 0, 0, 0, 1, 0, 0, -9, -9, -9, 1);
        reads(due, "-1;-t3;1-9t+9t2", 3, -1, 0, 0, 0, 0, 0, 0, -1, 1, -9, 9, 0);
    }

    private static void greatestDegree(Due due) {
        due.sentence("THE DEGREE n is the greatest of theirs.");
        String[] powers = {"1", "t", "t2", "t3"};
        for (int n = 1; n < 4; n++) {
            BentShares x = Due.with(powers[n] + ";1;1", "1;" + powers[n] + ";1", "1;1;" + powers[n],
                powers[n] + ";" + powers[n] + ";1");
            for (int line = 0; line < 4; line++) {
                due.is("degree of line " + line + " of t" + n, x.degree(line), n);
            }
        }
        due.is("degree of a POINT", Due.with("0;0;1").degree(0), 0);
    }

    private static void noPlace(Due due) {
        due.sentence("where W is 0 there it is none");
        BentShares x = Due.with("1;2;t", "0;0;1", "t3;1;t2-4", "0;t;2t-1");
        for (int part = 0; part < 4; part++) {
            due.is("1 / 0", x.at(0, 0, 1, part / 2, part % 2), -4 - T);
            due.is("1 / 0 at 0 / 20", x.at(0, 0, 20, part / 2, part % 2), -4 - T);
            due.is("at 2", x.at(2, 2, 1, part / 2, part % 2), -4 - T);
            due.is("at -20 / 10", x.at(2, -20, 10, part / 2, part % 2), -4 - T);
            due.is("0 / 0", x.at(3, 10, 20, part / 2, part % 2), -4 - T);
        }
        due.rows("0 / 1", Due.place(x, 1, 0, 1), 0, 1, 0, 1);
        due.rows("beside 0", Due.place(x, 0, 1, 20), 20, 1, 40, 1);
        due.rows("beside 0, below it", Due.place(x, 0, -1, 20), -20, 1, -40, 1);
        due.rows("x is 0, W below 0", Due.place(x, 3, 1, 4), 0, 1, -1, 2);
    }

    private static void far(Due due) {
        due.sentence("FAR: the place (x : y : w) by the numbers of t to the power n, as they stand.");
        BentShares x = Due.with("9;-9;9t3", "1;9t2;-9t", "9t-1;9;9", "4t3+1;-2t3;6t3");
        due.rows("w alone", Due.far(x, 0), 0, 0, 1);
        due.rows("y alone, and the sign that W gives", Due.far(x, 1), 0, -9, 0);
        due.rows("x alone", Due.far(x, 2), 9, 0, 0);
        due.rows("with a common divisor", Due.far(x, 3), 4, -2, 6);
        due.rows("of a POINT", Due.far(Due.with("-9;9;1"), 0), -9, 9, 1);
    }

    private static void kind(Due due, String text, int kind) {
        BentShares x = new BentShares();
        due.is("line of " + text, Due.line(x, 0, text), kind);
        due.is("kind of " + text, x.kind(0), kind);
    }

    private static void kinds(Due due) {
        due.sentence("KINDS: 0 a POINT (n is 0); below it 1 STRAIGHT (n 1 or more, ..); 2 CONIC (n 2), 3 CUBIC (n 3)");
        kind(due, "t;t;t", 0);
        kind(due, "0;0;t3", 0);
        // a X 0, b Y 0, and each two of three
        kind(due, "0;t2;1+t3", 1);
        kind(due, "t2;0;1+t3", 1);
        kind(due, "t2;2t2;1+t3", 1);
        kind(due, "2+2t3;t2;1+t3", 1);
        kind(due, "t2;3+3t3;1+t3", 1);
        // X + Y + W 0, and one number beside it
        kind(due, "t3+t2;t+1;-1-t-t2-t3", 1);
        kind(due, "t3+t2;t+1;-1-t-t2-2t3", 3);
        kind(due, "t3+t2;t+1;-1-t-2t2-t3", 3);
        kind(due, "t3+t2;t+2;-1-t-t2-t3", 3);
        kind(due, "t2;t+1;-1-t-t2", 1);
        kind(due, "t2;t+1;-1-2t-t2", 2);
        kind(due, "t2;t+1;-2-t-t2", 2);
        kind(due, "t;1;1+t", 1);
        kind(due, "t;1;9-t", 1);
    }

    private static void oneToEightBytes(Due due) {
        due.sentence("type: The n lowest bytes (1 .. 8) of w .. how many it has. BAD: n");
        BentShares x = new BentShares();
        int has = 0;
        for (int n = 1; n <= 8; n++) {
            has += n;
            due.is(n + " bytes", x.type(EIGHT_BLANKS, n), has);
        }
        for (int n : new int[] {0, 9, -1, -8, 16, Integer.MIN_VALUE, Integer.MAX_VALUE, 257, 264}) {
            due.is(n + " bytes", x.type(EIGHT_BLANKS, n), -1);
        }
        due.is("what is refused is not there", x.type(' ', 1), has + 1);
    }

    private static void printableBytes(Due due) {
        due.sentence("type: BAD: a byte not 32 .. 126");
        for (int n = 1; n <= 8; n++) {
            for (int there = 0; there < n; there++) {
                BentShares x = new BentShares();
                for (int wrong : new int[] {0, 9, 31, 127, 128, 160, 255}) {
                    long w = EIGHT_BLANKS & ~(255L << 8 * there) | (long) wrong << 8 * there;
                    due.is("byte " + wrong + " at " + there + " of " + n, x.type(w, n), -1);
                }
                due.is("byte 32", x.type(EIGHT_BLANKS, n), n);
                due.is("byte 126", x.type(EIGHT_BLANKS & ~(255L << 8 * there) | 126L << 8 * there, n), 2 * n);
                due.is("byte 126 is there", x.line(0), -20 - (2 * n - 1 - there));
            }
        }
    }

    private static void highestFirst(Due due) {
        due.sentence("type: The n lowest bytes of w, of these the highest first, come behind THE TAPE");
        for (long above : new long[] {0, -1, 0x80L << 24, 0x1f1f1f1f1f1f1f1fL}) {
            BentShares x = new BentShares();
            due.is("t;", x.type(above << 16 | 0x743b, 2), 2);
            due.is("2t2;", x.type(above << 32 | 0x3274323b, 4), 6);
            due.is("1", x.type(above << 8 | 0x31, 1), 7);
            due.is("t;2t2;1", x.line(0), 2);
            due.rows("t;2t2;1", Due.told(x, 0), 0, 1, 0, 0, 0, 0, 2, 0, 1, 0, 0, 0);
        }
    }

    private static void ninety(Due due) {
        due.sentence("type: FULL: 90");
        BentShares x = new BentShares();
        for (int has = 8; has <= 88; has += 8) {
            due.is("eight more", x.type(EIGHT_BLANKS, 8), has);
        }
        for (int n = 8; n > 2; n--) {
            due.is(n + " behind 88", x.type(EIGHT_BLANKS, n), -3);
        }
        due.is("a byte is BAD ahead of FULL", x.type(0x7f2020L, 3), -1);
        due.is("n is BAD ahead of FULL", x.type(EIGHT_BLANKS, 9), -1);
        due.is("2 behind 88", x.type(0x2074L, 2), 90);
        due.is("1 behind 90", x.type(' ', 1), -3);
        due.is("a byte is BAD ahead of FULL at 90", x.type(127, 1), -1);
        due.is("the last byte is read", x.line(0), -20 - 90);
        due.is("it has room then", x.type(EIGHT_BLANKS, 8), 8);
    }

    private static void tapeIsEmptyThen(Due due) {
        due.sentence("line: THE TAPE, which is empty then, is a LINE");
        BentShares x = new BentShares();
        for (String text : new String[] {"t;t2;1", "t;t2;0", "t;t2;10", "t;t2", "", "t;t2;1;", "100;t;1"}) {
            Due.line(x, 0, text);
            due.is("behind '" + text + "' it is empty", x.line(0), -20);
            due.is("behind '" + text + "' it has nothing", x.type(' ', 1), 1);
            x.line(0);
        }
        // nothing of a longer TAPE is read with a shorter one
        for (String before : new String[] {"t        ", "t;t2;1;1", "t2222222", "t+++++++", "77777777"}) {
            Due.line(x, 0, before);
            due.is("t behind '" + before + "'", Due.line(x, 0, "t"), -21);
            Due.line(x, 0, before);
            due.is("7 behind '" + before + "'", Due.line(x, 0, "7"), -21);
        }
    }

    private static void tapeStays(Due due) {
        due.sentence("line: BAD (THE TAPE stays)");
        for (int wrong : new int[] {-1, 4, Integer.MIN_VALUE, Integer.MAX_VALUE}) {
            BentShares x = new BentShares();
            due.is("BAD with nothing on the tape", x.line(wrong), -1);
            Due.put(x, "t;t2;");
            due.is("BAD is ahead of a fault", x.line(wrong), -1);
            due.is("the tape stays", x.type('0', 1), 6);
            due.is("BAD is ahead of NOT", x.line(wrong), -1);
            due.is("the tape stays again", x.type(0x2b31, 2), 8);
            due.is("it is read", x.line(3), 2);
        }
    }

    private static void threePolynomials(Due due) {
        due.sentence("line: three polynomials with ; between");
        fault(due, "1", 1);
        fault(due, "1;t", 3);
        reads(due, "1;t;1", 1, 1, 0, 0, 0, 0, 1, 0, 0, 1, 0, 0, 0);
        fault(due, "1;t;1;", 5);
        fault(due, "1;t;1;1", 5);
        fault(due, "1,t,1", 1);
        fault(due, "1:t:1", 1);
        fault(due, "1<t<1", 1);
    }

    private static void oneOrMoreTerms(Due due) {
        due.sentence("line: each one or more TERMS");
        fault(due, ";1;1", 0);
        fault(due, "1;;1", 2);
        fault(due, "1;1;", 4);
        fault(due, "  ;1;1", 2);
        fault(due, "1; ;1", 3);
        fault(due, "1;1; ", 5);
        fault(due, "-;1;1", 1);
        fault(due, "1+;1;1", 2);
        fault(due, "1;1;1-", 6);
        // as many as THE TAPE has room for: t 26 times less 17 times, and 29 times 99, which is 2871
        String many = "t" + "+t".repeat(25) + "-t".repeat(17) + ";1;1";
        due.is("how long it is", many.length(), 89);
        reads(due, many, 1, 0, 9, 0, 0, 1, 0, 0, 0, 1, 0, 0, 0);
        String wide = "99" + "+99".repeat(28) + ";0;1";
        due.is("how long it is", wide.length(), 90);
        refuses(due, wide, -2);
        String equal = "99" + "+99".repeat(13) + ";0;99" + "+99".repeat(13);
        due.is("how long it is", equal.length(), 85);
        reads(due, equal, 0, 1, 0, 0, 0, 0, 0, 0, 0, 1, 0, 0, 0);
    }

    private static void signs(Due due) {
        due.sentence("line: the first perhaps with -, others with + or - ahead");
        reads(due, "-2;-t;-1+t", 1, -2, 0, 0, 0, 0, -1, 0, 0, -1, 1, 0, 0);
        reads(due, "2-t;t+3;1", 1, 2, -1, 0, 0, 3, 1, 0, 0, 1, 0, 0, 0);
        fault(due, "+2;t;1", 0);
        fault(due, "2;+t;1", 2);
        fault(due, "2;t;+1", 4);
        fault(due, " +2;t;1", 1);
        fault(due, "--2;t;1", 1);
        fault(due, "-+2;t;1", 1);
        fault(due, "2+-t;t;1", 2);
        fault(due, "2-+t;t;1", 2);
        fault(due, "2++t;t;1", 2);
        fault(due, "2--t;t;1", 2);
        fault(due, "2*t;t;1", 1);
        fault(due, "2,t;t;1", 1);
        fault(due, "2.t;t;1", 1);
    }

    private static void numbers(Due due) {
        due.sentence("line: a number 0 .. 99");
        reads(due, "0;0t;1", 0, 0, 0, 0, 0, 0, 0, 0, 0, 1, 0, 0, 0);
        reads(due, "00;1;01", 0, 0, 0, 0, 0, 1, 0, 0, 0, 1, 0, 0, 0);
        reads(due, "99t-98t;10t-9t;1", 1, 0, 1, 0, 0, 0, 1, 0, 0, 1, 0, 0, 0);
        fault(due, "/;1;1", 0);
        fault(due, ":;1;1", 0);
        fault(due, "1/;1;1", 1);
        fault(due, "1:;1;1", 1);
        fault(due, "9:;1;1", 1);
        fault(due, "-/;1;1", 1);
        fault(due, "1+:;1;1", 2);
    }

    private static void lettersAndPowers(Due due) {
        due.sentence("line: perhaps t behind, or t alone, behind a t perhaps a digit 2, 3 (its power)");
        reads(due, "t;2t;1", 1, 0, 1, 0, 0, 0, 2, 0, 0, 1, 0, 0, 0);
        reads(due, "t2;2t3;1", 3, 0, 0, 1, 0, 0, 0, 0, 2, 1, 0, 0, 0);
        for (char digit = '/'; digit <= ':'; digit++) {
            if (digit == '2' || digit == '3') {
                continue;
            }
            fault(due, "t" + digit + ";1;1", 1);
            fault(due, "5t" + digit + ";1;1", 2);
            fault(due, "1;1;t " + digit, 6);
        }
        for (char behind : new char[] {'0', '2', '3', '9', 't', 's', 'u', 'T'}) {
            fault(due, "t2" + behind + ";1;1", 2);
            fault(due, "t3 " + behind + ";1;1", 3);
        }
        for (char letter : new char[] {'s', 'u', 'T', 'x', '~', '!'}) {
            fault(due, letter + ";1;1", 0);
            fault(due, "1" + letter + ";1;1", 1);
            fault(due, "t" + letter + ";1;1", 1);
        }
        fault(due, "tt;1;1", 1);
        fault(due, "t2t;1;1", 2);
        fault(due, "t23;1;1", 2);
    }

    private static void addedPowers(Due due) {
        due.sentence("line: Powers may come twice (they are added).");
        reads(due, "1+1;t+2t-t;t2+t2-1", 2, 2, 0, 0, 0, 0, 2, 0, 0, -1, 0, 2, 0);
        reads(due, "t3+4t3+4t3;t3-t3+t;1", 3, 0, 0, 0, 9, 0, 1, 0, 0, 1, 0, 0, 0);
        refuses(due, "t3+5t3+4t3;t3-t3+t;1", -2);
        reads(due, "99t+99t+99t-99t-99t-99t+t;1;1", 1, 0, 1, 0, 0, 1, 0, 0, 0, 1, 0, 0, 0);
    }

    private static void theEnd(Due due) {
        due.sentence("line: FAULTS: -20 less the place of the first byte (..) (the end: how many bytes there are)");
        fault(due, "", 0);
        fault(due, " ", 1);
        fault(due, "t;t;", 4);
        fault(due, "t;t;    ", 8);
        fault(due, " ".repeat(90), 90);
        fault(due, "t;t" + " ".repeat(87), 90);
        fault(due, "t;t" + " ".repeat(86) + ";", 90);
        fault(due, "t;t;1" + " ".repeat(84) + "x", 89);
        reads(due, "t;t;" + " ".repeat(85) + "1", 1, 0, 1, 0, 0, 0, 1, 0, 0, 1, 0, 0, 0);
        fault(due, "?;t;1", 0);
        fault(due, "?;?;?", 0);
        fault(due, "t;t;1 " + " ".repeat(83) + "-", 90);
    }

    private static void blanks(Due due) {
        due.sentence("line: bytes 32 count for nothing, but do not stand in a number");
        reads(due, "   -   2   t   3   +   7   ;   t   2   ;   -   5   ", 3, -7, 0, 0, 2, 0, 0, -1, 0, 5, 0, 0, 0);
        fault(due, "1 2;t;1", 2);
        fault(due, "1    2;t;1", 5);
        fault(due, "0 9t;t;1", 2);
        fault(due, "t;t;9 9", 6);
        fault(due, "    x;t;1", 4);
        fault(due, "t    x;t;1", 5);
        fault(due, "1    ;t;1    ;", 13);
    }

    private static void aboveNinetyNine(Due due) {
        due.sentence("line: of a number above 99 its first byte");
        fault(due, "100;t;1", 0);
        fault(due, "100t;t;1", 0);
        fault(due, "t-100;t;1", 2);
        fault(due, "t+   100x", 5);
        fault(due, "t;t;0100", 4);
        fault(due, "t;t;999", 4);
        fault(due, "t;t;2147483649", 4);
        fault(due, "t;t;4294967297", 4);
        fault(due, "t;t;18446744073709551617", 4);
        fault(due, "t;t;" + "9".repeat(86), 4);
        fault(due, "9".repeat(90), 0);
        reads(due, "t;t;" + "0".repeat(85) + "1", 1, 0, 1, 0, 0, 0, 1, 0, 0, 1, 0, 0, 0);
    }

    private static void notALine(Due due) {
        due.sentence("line: NOT: W is 0, or it can't be told");
        refuses(due, "t;1;0", -2);
        refuses(due, "10t;1;1", -2);
        fault(due, "10t;1;0x", 7);
        BentShares x = new BentShares();
        due.is("what was nothing", Due.line(x, 2, "10t;1;1"), -2);
        due.is("stays nothing", x.kind(2), -2);
    }

    private static void itWasNothing(Due due) {
        due.sentence("drop: A LINE is nothing: its KIND. NOT: it was nothing (so of all that follow)");
        for (int line = 0; line < 4; line++) {
            BentShares x = Due.with("t;t2;1", CUBIC, "1;1;1", "t;t;1");
            int kind = x.kind(line);
            due.is("drop", x.drop(line), kind);
            due.is("drop twice", x.drop(line), -2);
            for (int other = 0; other < 4; other++) {
                due.isTrue("the others stay", x.kind(other) == -2 == (other == line));
            }
            due.is("told again", Due.line(x, line, "t;t3;1"), 3);
            due.is("it is another one", x.drop(line), 3);
        }
    }

    private static void edgesOfT(Due due) {
        due.sentence("at: t = above / below (-20 .. 20 by 1 .. 20), without a common divisor, below above 0");
        BentShares x = Due.with("9t3+9t2+9t+9;t;1", "t;1;t3+9", "9t3-9t2+9t-9;9t3;9t3-8t2-9t-9", "7;-7;7");
        due.rows("20", Due.place(x, 0, 20, 1), 75789, 1, 20, 1);
        due.rows("-20", Due.place(x, 0, -20, 1), -68571, 1, -20, 1);
        due.rows("1/20", Due.place(x, 0, 1, 20), 75789, 8000, 1, 20);
        due.rows("-1/20", Due.place(x, 0, -1, 20), 68571, 8000, -1, 20);
        due.rows("20/20 is 1", Due.place(x, 0, 20, 20), 36, 1, 1, 1);
        due.rows("-20/20 is -1", Due.place(x, 0, -20, 20), 0, 1, -1, 1);
        due.rows("0/20 is 0", Due.place(x, 0, 0, 20), 9, 1, 0, 1);
        due.rows("W below 0 at -20", Due.place(x, 1, -20, 1), 20, 7991, -1, 7991);
        due.rows("W below 0 at 19/20", Due.place(x, 2, 19, 20), 6849, 136429, -61731, 136429);
        due.rows("a POINT at 20/19", Due.place(x, 3, 20, 19), 1, 1, -1, 1);
        due.rows("a POINT at -20/19", Due.place(x, 3, -20, 19), 1, 1, -1, 1);
    }
}
