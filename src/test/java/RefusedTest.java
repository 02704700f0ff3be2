import java.util.function.Supplier;
import java.util.function.ToLongFunction;

/**
 * "Refusals are answers, of several the first that a call names" and "What is refused changes nothing":
 * each refused call with its answer, on both sides of each range, and all of the object before it and behind it.
 */
public final class RefusedTest {
    private static final long T = 1000000000000L;
    private static final long Q = 1000000000000000L;

    /** A call with the numbers that it is given. */
    private interface Asked {
        long of(BentShares x, int... numbers);
    }

    private final Due due = new Due("RefusedTest");
    private final long[] unchanged = Everything.of(Everything.filled());

    public static void main(String[] args) {
        RefusedTest test = new RefusedTest();
        test.due.sentence("BAD -1 (a number is not as told, or names nothing)");
        test.badOfLines();
        test.badOfEquations();
        test.badOfAnew();
        test.badOfSheets();
        test.singular();
        test.due.sentence("NOT -2 (as told)");
        test.nothing();
        test.due.sentence("NONE -4 (as told); CAST -12 (a LINE of another KIND)");
        test.noneAndCast();
        test.due.sentence("what the machine finds of SHEETS: NULL -11, CAST -12, INDEX -13, SIZE -14, in this order");
        test.machine();
        test.machineInOrder();
        test.due.sentence("NOT: it is nothing, or can't be told");
        test.cantBeTold();
        test.due.sentence("NOT: an item is not -1000 .. 1000, W is 0, or it can't be told");
        test.termsOfNoLine();
        test.due.sentence("THE TAPE, which is empty then; FAULTS; NOT: W is 0, or it can't be told");
        test.tapesOfNoLine();
        test.due.sentence("FULL -3");
        test.full();
        test.due.end();
    }

    private void refused(String call, long answer, ToLongFunction<BentShares> ask) {
        refused(call, answer, ask, Everything::filled, unchanged);
    }

    private void refused(String call, long answer, ToLongFunction<BentShares> ask, Supplier<BentShares> made,
        long[] before) {
        BentShares x = made.get();
        due.is(call, ask.applyAsLong(x), answer);
        due.isTrue(call + " changes nothing", java.util.Arrays.equals(Everything.of(x), before));
    }

    private static String text(String name, int[] numbers) {
        return name + java.util.Arrays.toString(numbers);
    }

    /**
     * A call whose numbers must be within ranges: each number in turn is the last one that is taken and the first
     * one that is refused, on both sides, and as far out as can be.
     */
    private void ranges(String name, long bad, Asked ask, int[] fine, int... ranges) {
        due.is(name + ": ranges", ranges.length, 2 * fine.length);
        for (int i = 0; i < fine.length; i++) {
            int[] numbers = fine.clone();
            int least = ranges[2 * i];
            int most = ranges[2 * i + 1];
            for (int taken : new int[] {least, most}) {
                numbers[i] = taken;
                due.isTrue(text(name, numbers) + " is taken", ask.of(Everything.filled(), numbers.clone()) != bad);
            }
            for (int wrong : new int[] {least - 1, most + 1, Integer.MIN_VALUE, Integer.MAX_VALUE}) {
                numbers[i] = wrong;
                int[] given = numbers.clone();
                refused(text(name, given), bad, x -> ask.of(x, given));
            }
        }
    }

    /** As ranges(), for a call on a LINE: it is BAD ahead of all else, whatever the LINE is, or if it is nothing. */
    private void lineRanges(String name, long bad, Asked ask, int[] fine, int... ranges) {
        for (int line = 0; line < 4; line++) {
            int[] numbers = new int[fine.length + 1];
            int[] all = new int[ranges.length + 2];
            numbers[0] = line;
            all[1] = 3;
            System.arraycopy(fine, 0, numbers, 1, fine.length);
            System.arraycopy(ranges, 0, all, 2, ranges.length);
            ranges(name, bad, ask, numbers, all);
        }
    }

    private void badOfLines() {
        ranges("type", -1, (x, a) -> x.type(0x7474747474747474L, a[0]), new int[] {1}, 1, 8);
        lineRanges("line", -1, (x, a) -> x.line(a[0]), new int[0]);
        lineRanges("drop", -1, (x, a) -> x.drop(a[0]), new int[0]);
        lineRanges("kind", -1, (x, a) -> x.kind(a[0]), new int[0]);
        lineRanges("degree", -1, (x, a) -> x.degree(a[0]), new int[0]);
        lineRanges("told", -1001, (x, a) -> x.told(a[0], a[1], a[2]), new int[] {1, 1}, 0, 2, 0, 3);
        lineRanges("at", -1 - T, (x, a) -> x.at(a[0], a[1], a[2], a[3], a[4]), new int[] {3, 2, 0, 1},
            -20, 20, 1, 20, 0, 1, 0, 1);
        lineRanges("far", -1001, (x, a) -> x.far(a[0], a[1]), new int[] {1}, 0, 2);
    }

    private void badOfEquations() {
        lineRanges("equation", -1 - Q, (x, a) -> x.equation(a[0], a[1]), new int[] {1}, 0, 9);
        lineRanges("bends", -1, (x, a) -> x.bends(a[0]), new int[0]);
        lineRanges("times", -1, (x, a) -> x.times(a[0]), new int[0]);
        lineRanges("lies", -1, (x, a) -> x.lies(a[0], a[1], a[2], a[3]), new int[] {3, -2, 1},
            -20, 20, -20, 20, 1, 20);
        lineRanges("law", -1 - T, (x, a) -> x.law(a[0], a[1]), new int[] {1}, 0, 5);
        lineRanges("knot", -1 - T, (x, a) -> x.knot(a[0], a[1]), new int[] {1}, 0, 2);
        lineRanges("crosses", -1, (x, a) -> x.crosses(a[0]), new int[0]);
        lineRanges("meets", -1, (x, a) -> x.meets(a[0], a[1], a[2], a[3]), new int[] {5, 3, -1},
            -20, 20, -20, 20, -20, 20);
        lineRanges("touch", -1 - T, (x, a) -> x.touch(a[0], a[1], a[2], a[3]), new int[] {3, 2, 1},
            -20, 20, 1, 20, 0, 2);
        lineRanges("same", -1, (x, a) -> x.same(a[0], a[1]), new int[] {1}, 0, 3);
    }

    private void badOfAnew() {
        lineRanges("anew", -1, (x, a) -> x.anew(a[0], a[1], a[2], a[3], a[4]), new int[] {1, 0, 0, 2},
            -5, 5, -5, 5, -5, 5, -5, 5);
        lineRanges("anew", -1, (x, a) -> x.anew(a[0], a[1], a[2], a[3], a[4]), new int[] {0, 1, 2, 0},
            -5, 5, -5, 5, -5, 5, -5, 5);
        lineRanges("move", -1, (x, a) -> x.move(a[0], a[1], a[2], a[3], a[4], a[5], a[6]),
            new int[] {1, 0, 0, 2, 0, 0}, -9, 9, -9, 9, -9, 9, -9, 9, -9, 9, -9, 9);
        lineRanges("move", -1, (x, a) -> x.move(a[0], a[1], a[2], a[3], a[4], a[5], a[6]),
            new int[] {0, 1, 2, 0, 0, 0}, -9, 9, -9, 9, -9, 9, -9, 9, -9, 9, -9, 9);
        lineRanges("copy", -1, (x, a) -> x.copy(a[0], a[1]), new int[] {1}, 0, 3);
    }

    private void badOfSheets() {
        for (int sheet = 0; sheet < 4; sheet++) {
            int there = sheet;
            ranges("sheet, n 1", -1, (x, a) -> x.sheet(a[0], a[1], 1), new int[] {sheet, 1}, 0, 3, 0, 2);
            ranges("sheet, n -1", -1, (x, a) -> x.sheet(a[0], a[1], -1), new int[] {sheet, 1}, 0, 3, 0, 2);
            ranges("away", -1, (x, a) -> x.away(a[0]), new int[] {sheet}, 0, 3);
            ranges("item 0", -1, (x, a) -> x.item(a[0], a[1], 0, 5), new int[] {sheet, 1}, 0, 3, 0, 2);
            ranges("item -1", -1, (x, a) -> x.item(a[0], a[1], -1, 5), new int[] {sheet, 1}, 0, 3, 0, 2);
            ranges("terms from 0", -1, (x, a) -> x.terms(a[0], a[1], a[2], 0), new int[] {0, sheet, 1},
                0, 3, 0, 3, 0, 2);
            ranges("terms from -1", -1, (x, a) -> x.terms(a[0], a[1], a[2], -1), new int[] {0, sheet, 1},
                0, 3, 0, 3, 0, 2);
            for (int lane = 0; lane < 3; lane++) {
                int of = lane;
                refused("21 items", -1, x -> x.sheet(there, of, 21));
                refused("as many items as can be", -1, x -> x.sheet(there, of, Integer.MAX_VALUE));
                refused("-1 items", -14, x -> x.sheet(there, of, -1));
                refused("as few items as can be", -14, x -> x.sheet(there, of, Integer.MIN_VALUE));
            }
        }
    }

    /** "a d - b c not 0", "not a and b 0": each is BAD, of nothing too. */
    private void singular() {
        for (int line = 0; line < 4; line++) {
            int there = line;
            for (int[] a : new int[][] {{0, 0, 0, 0}, {1, 1, 1, 1}, {1, 2, 2, 4}, {5, -5, -5, 5}, {0, 5, 0, -5},
                {0, 0, 5, 3}, {-4, 2, -2, 1}}) {
                refused(text("anew", a), -1, x -> x.anew(there, a[0], a[1], a[2], a[3]));
                refused(text("move", a), -1, x -> x.move(there, a[0], a[1], a[2], a[3], 1, -1));
            }
            refused("move 9 9 9 9", -1, x -> x.move(there, 9, -9, -9, 9, 0, 0));
            for (int c : new int[] {-20, -1, 0, 1, 20}) {
                refused("meets 0 0 " + c, -1, x -> x.meets(there, 0, 0, c));
            }
        }
    }

    private void nothing() {
        refused("drop", -2, x -> x.drop(3));
        refused("kind", -2, x -> x.kind(3));
        refused("degree", -2, x -> x.degree(3));
        refused("told", -1002, x -> x.told(3, 0, 0));
        refused("at", -2 - T, x -> x.at(3, 0, 1, 0, 0));
        refused("far", -1002, x -> x.far(3, 0));
        refused("equation", -2 - Q, x -> x.equation(3, 0));
        refused("bends", -2, x -> x.bends(3));
        refused("times", -2, x -> x.times(3));
        refused("lies", -2, x -> x.lies(3, 0, 0, 1));
        refused("law", -2 - T, x -> x.law(3, 0));
        refused("knot", -2 - T, x -> x.knot(3, 0));
        refused("crosses", -2, x -> x.crosses(3));
        refused("meets", -2, x -> x.meets(3, 1, 1, 1));
        refused("touch", -2 - T, x -> x.touch(3, 0, 1, 0));
        refused("anew", -2, x -> x.anew(3, 1, 0, 0, 1));
        refused("move", -2, x -> x.move(3, 1, 0, 0, 1, 0, 0));
        for (int other = 0; other < 4; other++) {
            int there = other;
            refused("same 3 " + other, -2, x -> x.same(3, there));
            refused("same " + other + " 3", -2, x -> x.same(there, 3));
            refused("copy 3 " + other, -2, x -> x.copy(3, there));
        }
    }

    private void noneAndCast() {
        refused("equation of a POINT", -4 - Q, x -> x.equation(2, 9));
        refused("bends of a POINT", -4, x -> x.bends(2));
        refused("times of a POINT", -4, x -> x.times(2));
        refused("a POINT lies there", -4, x -> x.meets(2, 1, 1, -1));
        refused("a STRAIGHT one lies there", -4, x -> x.meets(1, 5, 3, -1));
        refused("touch of a POINT", -4 - T, x -> x.touch(2, 0, 1, 2));
        refused("touch where both places are one", -4 - T, x -> x.touch(1, 0, 1, 2));
        for (int line = 1; line < 3; line++) {
            int there = line;
            refused("law of another KIND", -12 - T, x -> x.law(there, 5));
            refused("knot of another KIND", -12 - T, x -> x.knot(there, 2));
            refused("crosses of another KIND", -12, x -> x.crosses(there));
        }
    }

    private void machine() {
        refused("away of nothing", -11, x -> x.away(3));
        int[] counts = {20, 12, 13};
        for (int lane = 0; lane < 3; lane++) {
            int of = lane;
            int count = counts[lane];
            refused("item of nothing", -11, x -> x.item(3, of, 0, 1));
            refused("terms of nothing", -11, x -> x.terms(0, 3, of, 0));
            refused("item behind the last", -13, x -> x.item(of, of, count, 1));
            refused("terms behind the last", -13, x -> x.terms(0, of, of, count - 11));
            for (int i : new int[] {-1, Integer.MIN_VALUE, Integer.MAX_VALUE, Integer.MAX_VALUE - 11, 20}) {
                refused("item " + i, -13, x -> x.item(of, of, i, 1));
                refused("terms from " + i, -13, x -> x.terms(0, of, of, i));
            }
            for (int sheet = 0; sheet < 3; sheet++) {
                int there = sheet;
                if (sheet != lane) {
                    refused("item of another LANE", -12, x -> x.item(there, of, 0, 1));
                    refused("terms of another LANE", -12, x -> x.terms(0, there, of, 0));
                }
            }
        }
    }

    private void machineInOrder() {
        for (int i : new int[] {-1, 20, Integer.MIN_VALUE, Integer.MAX_VALUE}) {
            refused("NULL is ahead of INDEX: item", -11, x -> x.item(3, 1, i, 1));
            refused("NULL is ahead of INDEX: terms", -11, x -> x.terms(0, 3, 1, i));
            refused("CAST is ahead of INDEX: item", -12, x -> x.item(1, 2, i, 1));
            refused("CAST is ahead of INDEX: terms", -12, x -> x.terms(0, 1, 2, i));
        }
    }

    private void cantBeTold() {
        refused("anew", -2, x -> x.anew(0, 3, 0, 0, 1));
        refused("anew of a STRAIGHT one", -2, x -> x.anew(1, 5, 0, 0, 1));
        refused("move", -2, x -> x.move(0, 1, 0, 0, 1, -9, 0));
        refused("move of a POINT", -2, x -> x.move(2, 1, 0, 0, 1, 7, 0));
    }

    private void termsOfNoLine() {
        int[][] items = {{0, 1001}, {0, -1001}, {11, 1001}, {0, 10}, {5, -10}, {11, Integer.MIN_VALUE}};
        for (int[] item : items) {
            Supplier<BentShares> made = () -> {
                BentShares x = Everything.filled();
                x.item(1, 1, item[0], item[1]);
                return x;
            };
            long[] before = Everything.of(made.get());
            for (int line = 0; line < 4; line++) {
                int there = line;
                refused(text("terms with item", item), -2, x -> x.terms(there, 1, 1, 0), made, before);
            }
        }
    }

    /** Of all that there is, only THE TAPE changes: it is empty. */
    private void tapesOfNoLine() {
        long[] before = Everything.of(Everything.filledButTape());
        for (String tape : new String[] {"t;1;0", "t;1;10", "5t3-5t2-5t+5;t+1;t+1"}) {
            for (int line = 0; line < 4; line++) {
                int there = line;
                refused(tape, -2, x -> Due.line(x, there, tape), Everything::filledButTape, before);
            }
        }
        for (String tape : new String[] {"", "t", "t;t", "t;t;t t", "x", "100", " ".repeat(90)}) {
            for (int line = 0; line < 4; line++) {
                int there = line;
                long place = tape.equals("t;t;t t") ? 6 : tape.equals("100") || tape.equals("x") ? 0 : tape.length();
                refused(tape, -20 - place, x -> Due.line(x, there, tape), Everything::filledButTape, before);
            }
        }
    }

    /** "FULL: 90" is told of THE TAPE alone; a TAPE that is refused more bytes keeps those that it has. */
    private void full() {
        for (int n = 1; n <= 8; n++) {
            BentShares x = new BentShares();
            Due.put(x, "t;t2;1" + " ".repeat(85 - n));
            due.is(n + " bytes behind " + (91 - n), x.type(0x7878787878787878L, n), -3);
            due.is("one less behind " + (91 - n), n == 1 ? 90 : x.type(0x2020202020202020L, n - 1), 90);
            due.is("one more behind 90", x.type('x', 1), -3);
            due.is("none of the refused bytes is there", x.line(0), 2);
            due.is("the tape is empty then", x.type('t', 1), 1);
        }
    }
}
