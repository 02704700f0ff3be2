/** Promises 23 to 26: sheet, away, item, terms. */
public final class SheetsTest {
    private static final int[] NO_SHEETS = {-1, 4, Integer.MIN_VALUE, Integer.MAX_VALUE};
    private static final int[] NO_LANES = {-1, 3, Integer.MIN_VALUE, Integer.MAX_VALUE};

    public static void main(String[] args) {
        Due due = new Due("SheetsTest");
        sheet(due);
        away(due);
        item(due);
        terms(due);
        termsRefusals(due);
        due.end();
    }

    /** Fills a SHEET from an item on. */
    private static void fill(BentShares x, int sheet, int lane, int from, int... items) {
        for (int i = 0; i < items.length; i++) {
            x.item(sheet, lane, from + i, items[i]);
        }
    }

    private static void sheet(Due due) {
        BentShares x = new BentShares();
        for (int lane = 0; lane < 3; lane++) {
            due.is("20 items", x.sheet(lane, lane, 20), 20);
            due.is("0 items", x.sheet(3, lane, 0), 0);
            due.is("no item of 0", x.item(3, lane, 0, 1), BentShares.INDEX);
            due.is("the last of 20", x.item(lane, lane, 19, 1), 1);
        }
        for (int wrong : NO_SHEETS) {
            due.is("sheet " + wrong, x.sheet(wrong, 0, 1), BentShares.BAD);
            due.is("BAD is ahead of SIZE: sheet " + wrong, x.sheet(wrong, 0, -1), BentShares.BAD);
        }
        for (int wrong : NO_LANES) {
            due.is("lane " + wrong, x.sheet(0, wrong, 1), BentShares.BAD);
            due.is("BAD is ahead of SIZE: lane " + wrong, x.sheet(0, wrong, -1), BentShares.BAD);
        }
        due.is("n 21", x.sheet(0, 0, 21), BentShares.BAD);
        due.is("n the greatest", x.sheet(0, 0, Integer.MAX_VALUE), BentShares.BAD);
        due.is("n -1", x.sheet(0, 1, -1), BentShares.SIZE);
        due.is("n the least", x.sheet(0, 1, Integer.MIN_VALUE), BentShares.SIZE);
        due.is("what is refused changes nothing", x.away(0), 20);
        x.sheet(1, 1, 12);
        fill(x, 1, 1, 0, 1, 1, 1, 1, 1, 1, 1, 1, 1, 1, 1, 1);
        due.is("a POINT", x.terms(0, 1, 1, 0), 0);
        due.is("a new row", x.sheet(1, 1, 12), 12);
        due.is("a new row is 0: so is W", x.terms(0, 1, 1, 0), BentShares.NOT);
    }

    private static void away(Due due) {
        BentShares x = new BentShares();
        for (int wrong : NO_SHEETS) {
            due.is("away " + wrong, x.away(wrong), BentShares.BAD);
        }
        for (int i = 0; i < 4; i++) {
            due.is("nothing", x.away(i), BentShares.NULL);
            x.sheet(i, i % 3, 5 * i);
        }
        for (int i = 0; i < 4; i++) {
            due.is("had", x.away(i), 5 * i);
            due.is("away already", x.away(i), BentShares.NULL);
            due.is("an item of nothing", x.item(i, i % 3, 0, 1), BentShares.NULL);
        }
    }

    private static void item(Due due) {
        BentShares x = new BentShares();
        due.is("nothing", x.item(0, 0, 0, 1), BentShares.NULL);
        due.is("NULL is ahead of INDEX", x.item(0, 0, -1, 1), BentShares.NULL);
        x.sheet(0, 1, 3);
        for (int wrong : NO_SHEETS) {
            due.is("sheet " + wrong, x.item(wrong, 0, 0, 1), BentShares.BAD);
        }
        for (int wrong : NO_LANES) {
            due.is("lane " + wrong, x.item(0, wrong, 0, 1), BentShares.BAD);
            due.is("BAD is ahead of NULL: lane " + wrong, x.item(1, wrong, 0, 1), BentShares.BAD);
        }
        due.is("bytes", x.item(0, 0, 0, 1), BentShares.CAST);
        due.is("longs", x.item(0, 2, 0, 1), BentShares.CAST);
        due.is("CAST is ahead of INDEX", x.item(0, 2, 3, 1), BentShares.CAST);
        due.is("i 3", x.item(0, 1, 3, 1), BentShares.INDEX);
        due.is("i -1", x.item(0, 1, -1, 1), BentShares.INDEX);
        due.is("i the least", x.item(0, 1, Integer.MIN_VALUE, 1), BentShares.INDEX);
        due.is("i the greatest", x.item(0, 1, Integer.MAX_VALUE, 1), BentShares.INDEX);
        due.is("i 0", x.item(0, 1, 0, Integer.MIN_VALUE), 1);
        due.is("i 2", x.item(0, 1, 2, Integer.MAX_VALUE), 1);
        x.sheet(1, 0, 12);
        fill(x, 1, 0, 0, 256 + 3, 0, 0, 0, 255, 0, 0, 0, 0x7fffff02, 0, 0, 512);
        due.is("lowest bits of bytes", x.terms(0, 1, 0, 0), 0);
        due.rows("lowest bits of bytes", Due.told(x, 0), 3, 0, 0, 0, -1, 0, 0, 0, 2, 0, 0, 0);
        x.item(1, 0, 8, 127);
        due.is("127", x.terms(0, 1, 0, 0), BentShares.NOT);
        fill(x, 1, 0, 0, 128, 0, 0, 0, 64, 0, 0, 0, 192);
        due.is("-128, 64, -64", x.terms(0, 1, 0, 0), 0);
        due.rows("-128, 64, -64", Due.told(x, 0), 2, 0, 0, 0, -1, 0, 0, 0, 1, 0, 0, 0);
        x.sheet(1, 2, 12);
        fill(x, 1, 2, 0, -2, 0, 0, 0, -4, 0, 0, 0, -6);
        due.is("longs below 0", x.terms(0, 1, 2, 0), 0);
        due.rows("longs below 0", Due.told(x, 0), 1, 0, 0, 0, 2, 0, 0, 0, 3, 0, 0, 0);
    }

    private static void terms(Due due) {
        for (int lane = 0; lane < 3; lane++) {
            BentShares x = new BentShares();
            x.sheet(2, lane, 20);
            fill(x, 2, lane, 0, 9, 9, 1, -2, 3, -4, 5, -6, 7, -8, 9, -1, 2, 3, 8, 8, 8, 8, 8, 8);
            due.is("from 2", x.terms(3, 2, lane, 2), 3);
            due.rows("from 2", Due.told(x, 3), 1, -2, 3, -4, 5, -6, 7, -8, 9, -1, 2, 3);
            fill(x, 2, lane, 8, 0, 1, 0, 0, 0, 0, 1, 0, 1, 0, 0, 0);
            due.is("from 8", x.terms(3, 2, lane, 8), 2);
            due.rows("from 8", Due.told(x, 3), 0, 1, 0, 0, 0, 0, 1, 0, 1, 0, 0, 0);
            x.item(2, lane, 8, 5);
            due.is("a LINE keeps nothing of a SHEET", x.told(3, 0, 0), 0);
            x.away(2);
            due.is("nor goes away with it", x.kind(3), 2);
        }
        BentShares x = new BentShares();
        x.sheet(0, 1, 12);
        fill(x, 0, 1, 0, 1000, 0, 0, 0, -1000, 0, 0, 0, 500);
        due.is("1000 and -1000", x.terms(0, 0, 1, 0), 0);
        due.rows("1000 and -1000", Due.told(x, 0), 2, 0, 0, 0, -2, 0, 0, 0, 1, 0, 0, 0);
        // 37 t - 41 times t2 + 1, times t - 1, times 2
        fill(x, 0, 1, 0, -41, 37, -41, 37, 41, -78, 37, 0, -82, 74, 0, 0);
        due.is("a wide divisor", x.terms(0, 0, 1, 0), 2);
        due.rows("a wide divisor", Due.told(x, 0), 1, 0, 1, 0, -1, 1, 0, 0, 2, 0, 0, 0);
        // 11 t2 - 70 t + 101 times 3 t + 4, times t - 9, times 5 - 2 t
        fill(x, 0, 1, 0, 404, 23, -166, 33, -909, 731, -169, 11, 505, -552, 195, -22);
        due.is("a wide divisor of degree 2", x.terms(0, 0, 1, 0), 1);
        due.rows("a wide divisor of degree 2", Due.told(x, 0), -4, -3, 0, 0, 9, -1, 0, 0, -5, 2, 0, 0);
        fill(x, 0, 1, 0, 404, 23, -166, 33, -909, 731, -169, 11, 505, -552, 196, -22);
        due.is("one number beside it", x.terms(0, 0, 1, 0), BentShares.NOT);
        // 59 t + 53 times 8 - 7 t + 9 t2, times -9 + 8 t + 7 t2, times 3 + t2
        fill(x, 0, 1, 0, 424, 101, 64, 531, -477, -107, 843, 413, 159, 177, 53, 59);
        due.is("a divisor behind wide rests", x.terms(0, 0, 1, 0), 2);
        due.rows("a divisor behind wide rests", Due.told(x, 0), 8, -7, 9, 0, -9, 8, 7, 0, 3, 0, 1, 0);
        fill(x, 0, 1, 0, 997, -991, 983, -977, 971, -967, 953, -947, 941, -937, 929, -919);
        due.is("nothing in common", x.terms(0, 0, 1, 0), BentShares.NOT);
    }

    private static void termsRefusals(Due due) {
        BentShares x = Due.with("t;t2;1");
        for (int wrong : NO_SHEETS) {
            due.is("line " + wrong, x.terms(wrong, 0, 0, 0), BentShares.BAD);
            due.is("sheet " + wrong, x.terms(0, wrong, 0, 0), BentShares.BAD);
        }
        for (int wrong : NO_LANES) {
            due.is("lane " + wrong, x.terms(0, 0, wrong, 0), BentShares.BAD);
        }
        due.is("nothing", x.terms(0, 0, 0, 0), BentShares.NULL);
        due.is("NULL is ahead of INDEX", x.terms(0, 0, 0, -1), BentShares.NULL);
        x.sheet(0, 2, 13);
        due.is("BAD is ahead of CAST", x.terms(4, 0, 1, 0), BentShares.BAD);
        due.is("ints", x.terms(0, 0, 1, 0), BentShares.CAST);
        due.is("bytes", x.terms(0, 0, 0, 0), BentShares.CAST);
        due.is("CAST is ahead of INDEX", x.terms(0, 0, 0, -1), BentShares.CAST);
        for (int from : new int[] {-1, 2, 13, Integer.MIN_VALUE, Integer.MAX_VALUE, Integer.MAX_VALUE - 11}) {
            due.is("from " + from, x.terms(0, 0, 2, from), BentShares.INDEX);
        }
        due.is("W is 0", x.terms(0, 0, 2, 1), BentShares.NOT);
        fill(x, 0, 2, 0, 1001, 0, 0, 0, 0, 0, 0, 0, 1);
        due.is("1001", x.terms(0, 0, 2, 0), BentShares.NOT);
        due.is("INDEX is ahead of NOT", x.terms(0, 0, 2, 2), BentShares.INDEX);
        // 1001 and 1001 would be 1 and 1 if they were told
        fill(x, 0, 2, 0, 1001, 0, 0, 0, 0, 0, 0, 0, 1001);
        due.is("1001 twice", x.terms(0, 0, 2, 0), BentShares.NOT);
        fill(x, 0, 2, 0, -1001, 0, 0, 0, 0, 0, 0, 0, 1001);
        due.is("-1001", x.terms(0, 0, 2, 0), BentShares.NOT);
        fill(x, 0, 2, 0, Integer.MIN_VALUE, 0, 0, 0, 0, 0, 0, 0, Integer.MIN_VALUE);
        due.is("the least", x.terms(0, 0, 2, 0), BentShares.NOT);
        fill(x, 0, 2, 0, 10, 0, 0, 0, 0, 0, 0, 0, 1);
        due.is("10", x.terms(0, 0, 2, 0), BentShares.NOT);
        due.rows("what is refused changes nothing", Due.told(x, 0), 0, 1, 0, 0, 0, 0, 1, 0, 1, 0, 0, 0);
        x.sheet(0, 0, 11);
        due.is("too few", x.terms(0, 0, 0, 0), BentShares.INDEX);
        x.sheet(0, 0, 0);
        due.is("none", x.terms(0, 0, 0, 0), BentShares.INDEX);
    }
}
