/** The sentences of promises 20 to 22 that name an edge: a test for each of them. */
public final class AnewEdgesTest {
    private static final String CUBIC = "t2-1;t3-t;1";
    private static final String WIDE = "1-2t+3t2-4t3;5-6t+7t2-8t3;9-t+2t2+3t3";

    public static void main(String[] args) {
        Due due = new Due("AnewEdgesTest");
        edgesOfAnew(due);
        singularAnew(due);
        timesThePower(due);
        anewCantBeTold(due);
        edgesOfMove(due);
        singularMove(due);
        moveCantBeTold(due);
        kindStays(due);
        copy(due);
        due.end();
    }

    /** Another LINE is told last, so that nothing of this one is at hand but the LINE itself. */
    private static void anew(Due due, String text, int[] a, long... numbers) {
        BentShares x = Due.with(text, WIDE);
        int kind = x.kind(0);
        String call = text + " by " + java.util.Arrays.toString(a);
        due.is(call, x.anew(0, a[0], a[1], a[2], a[3]), kind);
        due.rows(call, Due.told(x, 0), numbers);
    }

    private static void edgesOfAnew(Due due) {
        due.sentence("anew: t becomes (a t + b) / (c t + d) (-5 .. 5)");
        anew(due, "t;1;1", new int[] {5, 0, 0, 1}, 0, 5, 0, 0, 1, 0, 0, 0, 1, 0, 0, 0);
        anew(due, "t;1;1", new int[] {-5, 0, 0, 1}, 0, -5, 0, 0, 1, 0, 0, 0, 1, 0, 0, 0);
        anew(due, "t;1;1", new int[] {1, 5, 0, 1}, 5, 1, 0, 0, 1, 0, 0, 0, 1, 0, 0, 0);
        anew(due, "t;1;1", new int[] {1, -5, 0, 1}, -5, 1, 0, 0, 1, 0, 0, 0, 1, 0, 0, 0);
        anew(due, "t;1;1", new int[] {1, 0, 5, 1}, 0, 1, 0, 0, 1, 5, 0, 0, 1, 5, 0, 0);
        anew(due, "t;1;1", new int[] {1, 0, -5, 1}, 0, -1, 0, 0, -1, 5, 0, 0, -1, 5, 0, 0);
        anew(due, "t;1;1", new int[] {1, 0, 0, 5}, 0, 1, 0, 0, 5, 0, 0, 0, 5, 0, 0, 0);
        anew(due, "t;1;1", new int[] {1, 0, 0, -5}, 0, -1, 0, 0, 5, 0, 0, 0, 5, 0, 0, 0);
        anew(due, "t;1;1", new int[] {5, -5, 5, 5}, -1, 1, 0, 0, 1, 1, 0, 0, 1, 1, 0, 0);
        anew(due, "t;1;1", new int[] {-5, -5, 5, -5}, -1, -1, 0, 0, -1, 1, 0, 0, -1, 1, 0, 0);
        for (int out : new int[] {-6, 6}) {
            BentShares x = Due.with("t;1;1");
            due.is("a " + out, x.anew(0, out, 0, 0, 1), -1);
            due.is("b " + out, x.anew(0, 1, out, 0, 1), -1);
            due.is("c " + out, x.anew(0, 1, 0, out, 1), -1);
            due.is("d " + out, x.anew(0, 1, 0, 0, out), -1);
            due.rows("it stays", Due.told(x, 0), 0, 1, 0, 0, 1, 0, 0, 0, 1, 0, 0, 0);
        }
    }

    private static void singularAnew(Due due) {
        due.sentence("anew: a d - b c not 0");
        BentShares x = Due.with("1;2;3");
        for (int a = -5; a <= 5; a++) {
            for (int b = -5; b <= 5; b++) {
                due.is(a + " " + b + " 2 3", x.anew(0, a, b, 2, 3), 3 * a == 2 * b ? -1 : 0);
            }
            x = Due.with("1;2;3");
            for (int b = -5; b <= 5; b++) {
                due.is(a + " " + b + " 0 5", x.anew(0, a, b, 0, 5), a == 0 ? -1 : 0);
                due.is(a + " " + b + " -5 0", x.anew(0, a, b, -5, 0), b == 0 ? -1 : 0);
            }
            x = Due.with("1;2;3");
        }
    }

    private static void timesThePower(Due due) {
        due.sentence("anew: in X, Y, W times (c t + d) to the power n");
        anew(due, "1;2;3", new int[] {2, 1, 1, 1}, 1, 0, 0, 0, 2, 0, 0, 0, 3, 0, 0, 0);
        anew(due, "t;1;2", new int[] {2, 1, 1, 1}, 1, 2, 0, 0, 1, 1, 0, 0, 2, 2, 0, 0);
        anew(due, "t;t2;1", new int[] {2, 1, 1, 1}, 1, 3, 2, 0, 1, 4, 4, 0, 1, 2, 1, 0);
        anew(due, "t;t3;1", new int[] {1, 0, 1, 1}, 0, 1, 2, 1, 0, 0, 0, 1, 1, 3, 3, 1);
        anew(due, "t;t3;1", new int[] {0, 1, 1, 0}, 0, 0, 1, 0, 1, 0, 0, 0, 0, 0, 0, 1);
        // t to the power n alone: it goes to 1
        anew(due, "1;1;t3", new int[] {0, 1, 1, 0}, 0, 0, 0, 1, 0, 0, 0, 1, 1, 0, 0, 0);
        anew(due, "1;1;t3", new int[] {0, -1, 1, 0}, 0, 0, 0, -1, 0, 0, 0, -1, 1, 0, 0, 0);
    }

    private static void anewCantBeTold(Due due) {
        due.sentence("anew: NOT: it is nothing, or can't be told");
        BentShares x = Due.with("3t;t2;1");
        due.is("9", x.anew(0, 3, 0, 0, 1), 2);
        due.is("back", x.anew(0, 1, 0, 0, 3), 2);
        due.rows("back", Due.told(x, 0), 0, 3, 0, 0, 0, 0, 1, 0, 1, 0, 0, 0);
        due.is("beyond 9", x.anew(0, 4, 0, 0, 1), -2);
        due.is("beyond 9 by -4", x.anew(0, -4, 0, 0, 1), -2);
        due.is("beyond 9 in W", x.anew(0, 1, 0, 0, 4), -2);
        due.is("beyond 9 in t1", x.anew(0, 1, 5, 0, 1), -2);
        due.rows("it stays", Due.told(x, 0), 0, 3, 0, 0, 0, 0, 1, 0, 1, 0, 0, 0);
        due.rows("its equation stays", Due.equation(x, 0), 0, 0, 0, 0, 1, 0, 0, 0, -9, 0);
        due.is("nothing", x.anew(1, 1, 0, 0, 1), -2);
        due.is("nothing, BAD", x.anew(1, 1, 1, 1, 1), -1);
        due.is("can't be told, BAD", x.anew(0, 4, 0, 4, 0), -1);
    }

    private static void move(Due due, String text, int[] a, long... numbers) {
        BentShares x = Due.with(text, WIDE);
        int kind = x.kind(0);
        String call = text + " by " + java.util.Arrays.toString(a);
        due.is(call, x.move(0, a[0], a[1], a[2], a[3], a[4], a[5]), kind);
        due.rows(call, Due.told(x, 0), numbers);
    }

    private static void edgesOfMove(Due due) {
        due.sentence("move: x becomes a x + b y + e, y becomes c x + d y + f (-9 .. 9)");
        for (int s : new int[] {-1, 1}) {
            int nine = 9 * s;
            move(due, "t;1;1", new int[] {nine, 0, 0, 1, 0, 0}, 0, nine, 0, 0, 1, 0, 0, 0, 1, 0, 0, 0);
            move(due, "t;1;1", new int[] {1, nine, 0, 1, 0, 0}, nine, 1, 0, 0, 1, 0, 0, 0, 1, 0, 0, 0);
            move(due, "t;1;1", new int[] {1, 0, nine, 1, 0, 0}, 0, 1, 0, 0, 1, nine, 0, 0, 1, 0, 0, 0);
            move(due, "t;1;1", new int[] {1, 0, 0, nine, 0, 0}, 0, 1, 0, 0, nine, 0, 0, 0, 1, 0, 0, 0);
            move(due, "t;1;1", new int[] {1, 0, 0, 1, nine, 0}, nine, 1, 0, 0, 1, 0, 0, 0, 1, 0, 0, 0);
            move(due, "t;0;1", new int[] {1, 0, 0, 1, 0, nine}, 0, 1, 0, 0, nine, 0, 0, 0, 1, 0, 0, 0);
            move(due, "t;0;9", new int[] {nine, 0, 0, nine, nine, nine}, nine, s, 0, 0, nine, 0, 0, 0, 1, 0, 0, 0);
        }
        move(due, "9t;-9;9t3", new int[] {9, -9, 9, 9, -9, 9}, 9, 9, 0, -9, -9, 9, 0, 9, 0, 0, 0, 1);
        for (int out : new int[] {-10, 10}) {
            BentShares x = Due.with("0;t;1");
            due.is("a " + out, x.move(0, out, 0, 0, 1, 0, 0), -1);
            due.is("b " + out, x.move(0, 1, out, 0, 1, 0, 0), -1);
            due.is("c " + out, x.move(0, 1, 0, out, 1, 0, 0), -1);
            due.is("d " + out, x.move(0, 1, 0, 0, out, 0, 0), -1);
            due.is("e " + out, x.move(0, 1, 0, 0, 1, out, 0), -1);
            due.is("f " + out, x.move(0, 1, 0, 0, 1, 0, out), -1);
            due.rows("it stays", Due.told(x, 0), 0, 0, 0, 0, 0, 1, 0, 0, 1, 0, 0, 0);
        }
    }

    private static void singularMove(Due due) {
        due.sentence("move: a d - b c not 0");
        for (int a = -9; a <= 9; a++) {
            BentShares x = Due.with("0;0;1");
            for (int b = -9; b <= 9; b++) {
                due.is(a + " " + b + " 4 6", x.move(0, a, b, 4, 6, 0, 0), 6 * a == 4 * b ? -1 : 0);
                due.is(a + " " + b + " 0 9", x.move(0, a, b, 0, 9, 0, 0), a == 0 ? -1 : 0);
                due.is(a + " " + b + " -9 0", x.move(0, a, b, -9, 0, 0, 0), b == 0 ? -1 : 0);
            }
        }
    }

    private static void moveCantBeTold(Due due) {
        due.sentence("move: NOT: it is nothing, or can't be told");
        BentShares x = Due.with("t+4;t2;1");
        due.is("beyond 9", x.move(0, 1, 0, 0, 1, 6, 0), -2);
        due.is("beyond -9", x.move(0, -3, 0, 0, 1, 2, 0), -2);
        due.is("beyond 9 in Y", x.move(0, 1, 0, 3, 1, 0, -2), -2);
        due.rows("it stays", Due.told(x, 0), 4, 1, 0, 0, 0, 0, 1, 0, 1, 0, 0, 0);
        due.rows("its equation stays", Due.equation(x, 0), 0, 0, 0, 0, 1, 0, 0, -8, -1, 16);
        due.is("9 in Y", x.move(0, 1, 0, 3, 1, 0, -3), 2);
        due.rows("9 in Y", Due.told(x, 0), 4, 1, 0, 0, 9, 3, 1, 0, 1, 0, 0, 0);
        due.is("-9 in Y", x.move(0, -1, 0, 0, -1, 0, 0), 2);
        due.rows("-9 in Y", Due.told(x, 0), -4, -1, 0, 0, -9, -3, -1, 0, 1, 0, 0, 0);
        due.is("nothing", x.move(1, 1, 0, 0, 1, 0, 0), -2);
        due.is("nothing, BAD", x.move(1, 1, 1, 1, 1, 0, 0), -1);
    }

    private static void kindStays(Due due) {
        due.sentence("anew, move: the KIND");
        String[] texts = {"1;2;3", "t3;1;1", "t;t2;1", CUBIC};
        for (int kind = 0; kind < 4; kind++) {
            BentShares x = Due.with(texts[kind]);
            due.is("anew", x.anew(0, 1, 0, 1, 1), kind);
            due.is("move", x.move(0, 0, 1, 1, 0, 0, 0), kind);
            due.is("it is", x.kind(0), kind);
        }
    }

    private static void copy(Due due) {
        due.sentence("copy: A LINE is another one, too: the KIND.");
        for (int to = 0; to < 4; to++) {
            BentShares x = Due.with("t;t2;1", CUBIC, "1;2;3");
            due.is("to " + to, x.copy(1, to), 3);
            for (int line = 0; line < 4; line++) {
                due.is("line " + line, x.kind(line), line == to || line == 1 ? 3 : new int[] {2, 3, 0, -2}[line]);
            }
            due.rows("told", Due.told(x, to), -1, 0, 1, 0, 0, -1, 0, 1, 1, 0, 0, 0);
            due.rows("law", Due.law(x, to), 1, 0, 0, -1, 0, 0);
            due.is("a change of one", x.move(to, 1, 0, 0, 1, 1, 0), 3);
            due.is("leaves the other", x.told(1, 0, 0), to == 1 ? 0 : -1);
            due.is("of nothing", x.copy(3, to), to == 3 ? 3 : -2);
            due.is("of a POINT", x.copy(2, to), to == 2 ? 3 : 0);
        }
    }
}
