/** The sentences of promises 23 to 26, and of "4 sheets 0 .. 3", that name an edge: a test for each of them. */
public final class SheetsEdgesTest {
    private static final int BYTES = 0, INTS = 1, LONGS = 2;
    private static final String CUBIC = "t2-1;t3-t;1";

    public static void main(String[] args) {
        Due due = new Due("SheetsEdgesTest");
        fourSheets(due);
        upToTwentyItems(due);
        newRow(due);
        howManyItHad(due);
        eachItem(due);
        lowestBits(due);
        takenAsALane(due);
        twelveItems(due);
        upToThousand(due);
        notALine(due);
        due.end();
    }

    private static void fourSheets(Due due) {
        due.sentence("sheets 0 .. 3: nothing (at first), or a row of a LANE: 0 bytes, 1 ints, 2 longs");
        BentShares x = new BentShares();
        for (int sheet = 0; sheet < 4; sheet++) {
            due.is("nothing at first", x.away(sheet), -11);
            due.is("sheet " + sheet, x.sheet(sheet, sheet % 3, sheet + 1), sheet + 1);
            for (int lane = 0; lane < 3; lane++) {
                due.is("lane " + lane + " of sheet " + sheet, x.item(sheet, lane, 0, 1), lane == sheet % 3 ? 1 : -12);
            }
        }
        for (int sheet = 0; sheet < 4; sheet++) {
            due.is("each has its own row", x.away(sheet), sheet + 1);
        }
        for (int wrong : new int[] {-1, 4}) {
            due.is("sheet " + wrong, x.sheet(wrong, 0, 1), -1);
            due.is("away " + wrong, x.away(wrong), -1);
            due.is("item of " + wrong, x.item(wrong, 0, 0, 1), -1);
            due.is("terms of " + wrong, x.terms(0, wrong, 0, 0), -1);
        }
        for (int wrong : new int[] {-1, 3}) {
            due.is("sheet of lane " + wrong, x.sheet(0, wrong, 1), -1);
            due.is("item of lane " + wrong, x.item(0, wrong, 0, 1), -1);
            due.is("terms of lane " + wrong, x.terms(0, 0, wrong, 0), -1);
        }
    }

    private static void upToTwentyItems(Due due) {
        due.sentence("sheet: A SHEET holds a new row of a LANE: n. BAD: also n above 20; SIZE: n below 0.");
        BentShares x = new BentShares();
        for (int lane = 0; lane < 3; lane++) {
            for (int n = 0; n <= 20; n++) {
                due.is(n + " items", x.sheet(1, lane, n), n);
                due.is("the last of " + n, x.item(1, lane, n - 1, 5), n == 0 ? -13 : 1);
                due.is("behind " + n, x.item(1, lane, n, 5), -13);
            }
            due.is("21 items", x.sheet(1, lane, 21), -1);
            due.is("-1 items", x.sheet(1, lane, -1), -14);
            due.is("20 items stay", x.away(1), 20);
            due.is("21 items of nothing", x.sheet(1, lane, 21), -1);
            due.is("-1 items of nothing", x.sheet(1, lane, -1), -14);
            due.is("nothing stays", x.away(1), -11);
            due.is("-1 items and no lane", x.sheet(1, 3, -1), -1);
            due.is("-1 items and no sheet", x.sheet(4, lane, -1), -1);
        }
    }

    private static void newRow(Due due) {
        due.sentence("sheet: A SHEET holds a new row (its items are 0, whatever it held)");
        for (int lane = 0; lane < 3; lane++) {
            BentShares x = new BentShares();
            x.sheet(0, lane, 20);
            for (int i = 0; i < 20; i++) {
                x.item(0, lane, i, 7);
            }
            due.is("a POINT of sevens", x.terms(0, 0, lane, 8), 0);
            x.sheet(0, lane, 20);
            x.item(0, lane, 16, 3);
            due.is("a new row of the same LANE", x.terms(0, 0, lane, 8), 0);
            due.rows("a new row of the same LANE", Due.told(x, 0), 0, 0, 0, 0, 0, 0, 0, 0, 1, 0, 0, 0);
            x.sheet(0, lane, 5);
            x.away(0);
            x.sheet(0, (lane + 1) % 3, 20);
            due.is("of another LANE", x.terms(0, 0, (lane + 1) % 3, 8), -2);
            due.is("the old LANE", x.terms(0, 0, lane, 8), -12);
        }
    }

    private static void howManyItHad(Due due) {
        due.sentence("away: A SHEET holds nothing: how many items it had. BAD; NULL.");
        for (int n : new int[] {0, 1, 19, 20}) {
            BentShares x = new BentShares();
            x.sheet(2, INTS, n);
            x.sheet(3, INTS, 7);
            due.is("it had " + n, x.away(2), n);
            due.is("it holds nothing", x.away(2), -11);
            due.is("an item of it", x.item(2, INTS, 0, 1), -11);
            due.is("terms of it", x.terms(0, 2, INTS, 0), -11);
            due.is("the next one stays", x.away(3), 7);
        }
    }

    private static void eachItem(Due due) {
        due.sentence("item: Item i of a SHEET becomes v: 1. INDEX");
        for (int i = 0; i < 12; i++) {
            BentShares x = new BentShares();
            x.sheet(0, LONGS, 12);
            due.is("item " + i, x.item(0, LONGS, i, 1), 1);
            due.is("with W", x.item(0, LONGS, 11, 1), 1);
            due.is("and 1", x.item(0, LONGS, 0, 1), 1);
            x.terms(0, 0, LONGS, 0);
            for (int k = 0; k < 12; k++) {
                due.is("number " + k, x.told(0, k / 4, k % 4), k == i || k == 11 || k == 0 ? 1 : 0);
            }
        }
        BentShares x = new BentShares();
        for (int n : new int[] {0, 1, 20}) {
            x.sheet(0, BYTES, n);
            for (int wrong : new int[] {-1, n, n + 1, 20, Integer.MIN_VALUE, Integer.MAX_VALUE}) {
                due.is("item " + wrong + " of " + n, x.item(0, BYTES, wrong, 1), -13);
            }
        }
    }

    /** What an item is then: told as X beside W, which is 1. */
    private static void bits(Due due, int lane, int v, int item) {
        BentShares x = new BentShares();
        x.sheet(0, lane, 12);
        due.is("becomes " + v, x.item(0, lane, 0, v), 1);
        x.item(0, lane, 8, 1);
        boolean fits = Math.abs(item) <= 9;
        due.is(v + " of lane " + lane, x.terms(0, 0, lane, 0), fits ? 0 : -2);
        due.is(v + " of lane " + lane + " is", x.told(0, 0, 0), fits ? item : -1002);
    }

    private static void lowestBits(Due due) {
        due.sentence("item: becomes v, its lowest bits");
        int[][] bytes = {{255, -1}, {256, 0}, {257, 1}, {-256, 0}, {-257, -1}, {247, -9}, {246, -10}, {265, 9},
            {266, 10}, {127, 127}, {128, -128}, {-128, -128}, {-129, 127}, {Integer.MIN_VALUE, 0},
            {Integer.MAX_VALUE, -1}, {0x12345609, 9}, {0x7fffff80, -128}};
        for (int[] row : bytes) {
            bits(due, BYTES, row[0], row[1]);
        }
        for (int lane = INTS; lane <= LONGS; lane++) {
            for (int v : new int[] {-9, -1, 0, 9, 10, 255, 256, 257, -256, 65536, 65537, Integer.MIN_VALUE,
                Integer.MIN_VALUE + 1, Integer.MAX_VALUE}) {
                bits(due, lane, v, v == Integer.MIN_VALUE ? Integer.MAX_VALUE : v);
            }
        }
        // -128 as X and 64 as W are -2 and 1, and 128 would be none of bytes
        BentShares x = new BentShares();
        x.sheet(0, BYTES, 12);
        x.item(0, BYTES, 0, 128);
        x.item(0, BYTES, 8, 64);
        x.terms(0, 0, BYTES, 0);
        due.rows("-128 and 64", Due.told(x, 0), -2, 0, 0, 0, 0, 0, 0, 0, 1, 0, 0, 0);
    }

    private static void takenAsALane(Due due) {
        due.sentence("item, terms: of a SHEET, taken as a row of a LANE: CAST");
        for (int lane = 0; lane < 3; lane++) {
            for (int as = 0; as < 3; as++) {
                BentShares x = new BentShares();
                x.sheet(0, lane, 20);
                due.is("item of " + lane + " as " + as, x.item(0, as, 8, 1), lane == as ? 1 : -12);
                x.item(0, lane, 8, 1);
                due.is("terms of " + lane + " as " + as, x.terms(0, 0, as, 0), lane == as ? 0 : -12);
                due.is("the LINE", x.kind(0), lane == as ? 0 : -2);
            }
        }
    }

    private static void twelveItems(Due due) {
        due.sentence("terms: Twelve items of a SHEET from one on are a LINE: INDEX");
        for (int n = 0; n <= 20; n++) {
            BentShares x = new BentShares();
            x.sheet(0, INTS, n);
            for (int i = 0; i < n; i++) {
                x.item(0, INTS, i, i % 10);
            }
            for (int from = -1; from <= n; from++) {
                boolean there = from >= 0 && from + 12 <= n;
                due.isTrue("from " + from + " of " + n, x.terms(1, 0, INTS, from) >= 0 == there);
                due.is("INDEX from " + from + " of " + n, there ? 0 : x.terms(1, 0, INTS, from), there ? 0 : -13);
            }
            due.is("the first behind", x.terms(1, 0, INTS, Math.max(0, n - 11)), -13);
        }
        BentShares x = new BentShares();
        x.sheet(0, LONGS, 20);
        for (int i = 0; i < 12; i++) {
            x.item(0, LONGS, 8 + i, i - 9);
        }
        due.is("the last twelve", x.terms(0, 0, LONGS, 8), 1);
        due.rows("the last twelve", Due.told(x, 0), -9, -8, -7, -6, -5, -4, -3, -2, -1, 0, 1, 2);
        for (int from : new int[] {Integer.MIN_VALUE, Integer.MAX_VALUE, Integer.MAX_VALUE - 11, -12}) {
            due.is("from " + from, x.terms(0, 0, LONGS, from), -13);
        }
    }

    private static void upToThousand(Due due) {
        due.sentence("terms: NOT: an item is not -1000 .. 1000");
        for (int lane = INTS; lane <= LONGS; lane++) {
            for (int i = 0; i < 12; i++) {
                BentShares x = new BentShares();
                x.sheet(0, lane, 12);
                for (int wide : new int[] {-1000, 1000, -1001, 1001, Integer.MIN_VALUE, Integer.MAX_VALUE}) {
                    // the same wide number in W, so that it is taken off; where X and Y are 0, all of W is
                    x.item(0, lane, 8, wide);
                    x.item(0, lane, i, wide);
                    int kind = i % 4 == 0 || i > 8 ? 0 : 1;
                    boolean taken = Math.abs((long) wide) <= 1000;
                    due.is("item " + i + " is " + wide, x.terms(0, 0, lane, 0), taken ? kind : -2);
                    due.is("item " + i + " is " + wide + ": the LINE", x.kind(0), kind);
                }
            }
        }
        BentShares x = Due.with("t;t2;1");
        due.is("1000 and 125", Due.terms(x, 0, 1000, 0, 0, 0, -1000, 0, 0, 0, 125, 0, 0, 0), 0);
        due.rows("1000 and 125", Due.told(x, 0), 8, 0, 0, 0, -8, 0, 0, 0, 1, 0, 0, 0);
        due.is("an item beyond 1000 of no LINE", Due.terms(x, 0, 1001, 0, 0, 0, 0, 0, 0, 0, 0, 0, 0, 0), -2);
        x.sheet(0, INTS, 13);
        x.item(0, INTS, 12, 1001);
        x.item(0, INTS, 8, 1);
        due.is("1001 behind the twelve", x.terms(0, 0, INTS, 0), 0);
        due.is("1001 among the twelve", x.terms(0, 0, INTS, 1), -2);
    }

    private static void notALine(Due due) {
        due.sentence("terms: NOT: .. W is 0, or it can't be told");
        BentShares x = Due.with(CUBIC);
        due.is("all 0", Due.terms(x, 0, 0, 0, 0, 0, 0, 0, 0, 0, 0, 0, 0, 0), -2);
        due.is("W is 0", Due.terms(x, 0, 1, 2, 3, 4, 5, 6, 7, 8, 0, 0, 0, 0), -2);
        due.is("beyond 9", Due.terms(x, 0, 10, 0, 0, 0, 0, 0, 0, 0, 1, 0, 0, 0), -2);
        due.is("beyond -9", Due.terms(x, 0, 1, 0, 0, 0, 0, 0, 0, -10, 0, 0, 0, 1), -2);
        due.is("beyond 9 when a polynomial is off", Due.terms(x, 0, 5, -5, -5, 5, 1, 1, 0, 0, 1, 1, 0, 0), -2);
        due.rows("the LINE stays", Due.told(x, 0), -1, 0, 1, 0, 0, -1, 0, 1, 1, 0, 0, 0);
        due.is("W is t3", Due.terms(x, 0, 0, 0, 0, 0, 0, 0, 0, 0, 0, 0, 0, 1), 0);
        due.is("W is -1000", Due.terms(x, 0, 0, 0, 0, 0, 0, 0, 0, 0, -1000, 0, 0, 0), 0);
        due.rows("W is -1000", Due.told(x, 0), 0, 0, 0, 0, 0, 0, 0, 0, 1, 0, 0, 0);
        due.is("what was nothing", Due.terms(x, 1, 10, 0, 0, 0, 0, 0, 0, 0, 1, 0, 0, 0), -2);
        due.is("stays nothing", x.kind(1), -2);
    }
}
