/** Promises 20 to 22: anew, move, copy. */
public final class AnewTest {
    private static final int[] NO_LINES = {-1, 4, Integer.MIN_VALUE, Integer.MAX_VALUE};

    public static void main(String[] args) {
        Due due = new Due("AnewTest");
        anew(due);
        anewRefusals(due);
        move(due);
        moveRefusals(due);
        copy(due);
        due.end();
    }

    private static void anew(Due due) {
        BentShares x = Due.with("t;t2;1", "t2-1;t3-t;1", "3;2;1", "t3;2t3;1");
        due.is("t + 1", x.anew(0, 1, 1, 0, 1), 2);
        due.rows("t + 1", Due.told(x, 0), 1, 1, 0, 0, 1, 2, 1, 0, 1, 0, 0, 0);
        due.is("back", x.anew(0, 1, -1, 0, 1), 2);
        due.is("2 t", x.anew(0, 2, 0, 0, 1), 2);
        due.rows("2 t", Due.told(x, 0), 0, 2, 0, 0, 0, 0, 4, 0, 1, 0, 0, 0);
        due.is("t / 2, by 5 and 5 less", x.anew(0, -5, 0, 0, -5), 2);
        due.rows("t / 1", Due.told(x, 0), 0, 2, 0, 0, 0, 0, 4, 0, 1, 0, 0, 0);
        due.is("1 / t", x.anew(0, 0, 1, 1, 0), 2);
        due.rows("1 / t", Due.told(x, 0), 0, 2, 0, 0, 4, 0, 0, 0, 0, 0, 1, 0);
        due.is("1 / t of the knot", x.anew(1, 0, 1, 1, 0), 3);
        due.rows("1 / t of the knot", Due.told(x, 1), 0, 1, 0, -1, 1, 0, -1, 0, 0, 0, 0, 1);
        due.is("-1 / t back: the signs", x.anew(1, 0, -1, 1, 0), 3);
        due.rows("-1 / t back: the signs", Due.told(x, 1), -1, 0, 1, 0, 0, 1, 0, -1, 1, 0, 0, 0);
        due.is("a POINT", x.anew(2, 5, 4, 3, 2), 0);
        due.rows("a POINT", Due.told(x, 2), 3, 0, 0, 0, 2, 0, 0, 0, 1, 0, 0, 0);
        due.is("STRAIGHT", x.anew(3, 1, 0, 1, 1), 1);
        due.rows("STRAIGHT", Due.told(x, 3), 0, 0, 0, 1, 0, 0, 0, 2, 1, 3, 3, 1);
        due.is("still told thrice", x.times(3), 3);
        Due.line(x, 0, "1-t2;2t;1+t2");
        due.is("circle by (t - 1) / (t + 1)", x.anew(0, 1, -1, 1, 1), 2);
        due.rows("circle by (t - 1) / (t + 1)", Due.told(x, 0), 0, 2, 0, 0, -1, 0, 1, 0, 1, 0, 1, 0);
        due.rows("THE EQUATION stays", Due.equation(x, 0), 0, 0, 0, 0, 1, 0, 1, 0, 0, -1);
        Due.line(x, 0, "1;t;t+1");
        due.is("W's highest number is below 0 first", x.anew(0, -1, 0, 0, 1), 1);
        due.rows("W's highest number", Due.told(x, 0), -1, 0, 0, 0, 0, 1, 0, 0, -1, 1, 0, 0);
    }

    private static void anewRefusals(Due due) {
        BentShares x = Due.with("t2-1;t3-t;1");
        due.is("can't be told", x.anew(0, 3, 0, 0, 1), BentShares.NOT);
        due.rows("stays", Due.told(x, 0), -1, 0, 1, 0, 0, -1, 0, 1, 1, 0, 0, 0);
        due.is("nothing", x.anew(1, 1, 1, 0, 1), BentShares.NOT);
        due.is("a d - b c 0", x.anew(0, 1, 2, 2, 4), BentShares.BAD);
        due.is("all 0", x.anew(0, 0, 0, 0, 0), BentShares.BAD);
        due.is("BAD is ahead of NOT", x.anew(1, 1, 1, 1, 1), BentShares.BAD);
        for (int wrong : NO_LINES) {
            due.is("line " + wrong, x.anew(wrong, 1, 0, 0, 1), BentShares.BAD);
        }
        for (int wrong : new int[] {-6, 6, Integer.MIN_VALUE, Integer.MAX_VALUE}) {
            due.is("a " + wrong, x.anew(0, wrong, 0, 0, 1), BentShares.BAD);
            due.is("b " + wrong, x.anew(0, 1, wrong, 0, 1), BentShares.BAD);
            due.is("c " + wrong, x.anew(0, 1, 0, wrong, 1), BentShares.BAD);
            due.is("d " + wrong, x.anew(0, 1, 0, 0, wrong), BentShares.BAD);
        }
        Due.line(x, 1, "2;7;9");
        due.is("-5 and 5", x.anew(1, -5, 5, 5, 5), 0);
        due.is("5 and -5", x.anew(1, 5, -5, -5, -5), 0);
    }

    private static void move(Due due) {
        BentShares x = Due.with("t;t2;1", "1-t2;2t;1+t2", "3;2;1", "t2;t3;2");
        due.is("by (2, -3)", x.move(0, 1, 0, 0, 1, 2, -3), 2);
        due.rows("by (2, -3)", Due.told(x, 0), 2, 1, 0, 0, -3, 0, 1, 0, 1, 0, 0, 0);
        due.is("turned over", x.move(0, 0, 1, 1, 0, 0, 0), 2);
        due.rows("turned over", Due.told(x, 0), -3, 0, 1, 0, 2, 1, 0, 0, 1, 0, 0, 0);
        due.is("circle, x + y and x - y", x.move(1, 1, 1, 1, -1, 0, 0), 2);
        due.rows("circle, x + y and x - y", Due.told(x, 1), 1, 2, -1, 0, 1, -2, -1, 0, 1, 0, 1, 0);
        due.is("a POINT, 9 and -9", x.move(2, 3, 0, 0, -4, 0, 9), 0);
        due.rows("a POINT, 9 and -9", Due.told(x, 2), 9, 0, 0, 0, 1, 0, 0, 0, 1, 0, 0, 0);
        due.is("2 x, 2 y: a divisor goes", x.move(3, 2, 0, 0, 2, 0, 0), 3);
        due.rows("2 x, 2 y: a divisor goes", Due.told(x, 3), 0, 0, 1, 0, 0, 0, 0, 1, 1, 0, 0, 0);
        due.is("each number", x.move(3, 1, 2, 3, 4, 5, 6), 3);
        due.rows("each number", Due.told(x, 3), 5, 0, 1, 2, 6, 0, 3, 4, 1, 0, 0, 0);
        due.rows("the knot, too", Due.knot(x, 3), 5, 6, 1);
    }

    private static void moveRefusals(Due due) {
        BentShares x = Due.with("t;2t2;1");
        due.is("can't be told", x.move(0, 1, 0, 0, 5, 0, 0), BentShares.NOT);
        due.is("can't be told, x", x.move(0, 9, 1, 0, 1, 9, 0), 2);
        due.is("can't be told, 10", x.move(0, 1, 0, 0, 1, 1, 0), BentShares.NOT);
        due.rows("stays", Due.told(x, 0), 9, 9, 2, 0, 0, 0, 2, 0, 1, 0, 0, 0);
        due.is("nothing", x.move(1, 1, 0, 0, 1, 0, 0), BentShares.NOT);
        due.is("a d - b c 0", x.move(0, 2, 4, 3, 6, 1, 1), BentShares.BAD);
        due.is("BAD is ahead of NOT", x.move(1, 0, 0, 0, 0, 0, 0), BentShares.BAD);
        for (int wrong : NO_LINES) {
            due.is("line " + wrong, x.move(wrong, 1, 0, 0, 1, 0, 0), BentShares.BAD);
        }
        for (int wrong : new int[] {-10, 10, Integer.MIN_VALUE, Integer.MAX_VALUE}) {
            due.is("a " + wrong, x.move(0, wrong, 0, 0, 1, 0, 0), BentShares.BAD);
            due.is("b " + wrong, x.move(0, 1, wrong, 0, 1, 0, 0), BentShares.BAD);
            due.is("c " + wrong, x.move(0, 1, 0, wrong, 1, 0, 0), BentShares.BAD);
            due.is("d " + wrong, x.move(0, 1, 0, 0, wrong, 0, 0), BentShares.BAD);
            due.is("e " + wrong, x.move(0, 1, 0, 0, 1, wrong, 0), BentShares.BAD);
            due.is("f " + wrong, x.move(0, 1, 0, 0, 1, 0, wrong), BentShares.BAD);
        }
        Due.line(x, 1, "0;0;1");
        due.is("9 and -9", x.move(1, 9, -9, 9, 9, 9, -9), 0);
        due.rows("9 and -9", Due.told(x, 1), 9, 0, 0, 0, -9, 0, 0, 0, 1, 0, 0, 0);
        due.is("-9 and 9", x.move(1, -9, 9, -9, -9, -9, 9), BentShares.NOT);
    }

    private static void copy(Due due) {
        BentShares x = Due.with("t2-1;t3-t;1", "t;t2;1");
        due.is("to nothing", x.copy(0, 3), 3);
        due.rows("to nothing", Due.told(x, 3), -1, 0, 1, 0, 0, -1, 0, 1, 1, 0, 0, 0);
        due.rows("its law", Due.law(x, 3), 1, 0, 0, -1, 0, 0);
        due.is("what it crosses", x.crosses(3), 2);
        due.is("upon another", x.copy(1, 0), 2);
        due.rows("upon another", Due.equation(x, 0), 0, 0, 0, 0, 1, 0, 0, 0, -1, 0);
        due.is("the first copy stays", x.kind(3), 3);
        due.is("upon itself", x.copy(3, 3), 3);
        x.move(3, 1, 0, 0, 1, 1, 1);
        x.copy(3, 2);
        x.drop(3);
        due.is("the copy of what is dropped", x.kind(2), 3);
        due.rows("its own knot", Due.knot(x, 2), 1, 1, 1);
        due.is("of nothing", x.copy(3, 2), BentShares.NOT);
        due.is("of nothing, upon itself", x.copy(3, 3), BentShares.NOT);
        due.is("what is refused changes nothing", x.kind(2), 3);
        for (int wrong : NO_LINES) {
            due.is("copy " + wrong + ", 0", x.copy(wrong, 0), BentShares.BAD);
            due.is("copy 0, " + wrong, x.copy(0, wrong), BentShares.BAD);
            due.is("BAD is ahead of NOT: " + wrong, x.copy(3, wrong), BentShares.BAD);
        }
    }
}
