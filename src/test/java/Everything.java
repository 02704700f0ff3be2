import java.util.ArrayList;
import java.util.Arrays;
import java.util.List;

/** All that can be asked of an object, as one row, to see that a refused call has changed nothing. */
final class Everything {
    private final BentShares x;
    private final List<Long> answers = new ArrayList<>();

    private Everything(BentShares x) {
        this.x = x;
    }

    /** A CUBIC, a STRAIGHT one, a POINT and nothing; SHEETS of each LANE and nothing; a TAPE that is a LINE. */
    static BentShares filled() {
        BentShares x = filledButTape();
        Due.put(x, "t3 ;-t;2");
        return x;
    }

    static BentShares filledButTape() {
        BentShares x = Due.with("t2-1;t3-t;1", "t2;1-t2;2t2+3", "6;-4;2", "t;t2;1");
        x.drop(3);
        x.sheet(0, 0, 20);
        x.sheet(1, 1, 12);
        x.sheet(2, 2, 13);
        x.sheet(3, 1, 5);
        x.away(3);
        for (int i = 0; i < 20; i++) {
            x.item(0, 0, i, i % 7 - 3);
            x.item(1, 1, i, i % 5 - 1);
            x.item(2, 2, i, 7 - i % 8);
        }
        return x;
    }

    /** Asking uses the object up: its TAPE is read, its SHEETS go away. It takes some 260 calls. */
    static long[] of(BentShares x) {
        Everything all = new Everything(x);
        all.lines();
        all.tape();
        all.sheets();
        return all.answers.stream().mapToLong(Long::longValue).toArray();
    }

    private void add(long... more) {
        Arrays.stream(more).forEach(answers::add);
    }

    private void lines() {
        for (int line = 0; line < 4; line++) {
            add(x.kind(line), x.degree(line), x.crosses(line));
            add(Due.told(x, line));
            add(Due.equation(x, line));
            add(Due.law(x, line));
            add(Due.knot(x, line));
        }
    }

    private void tape() {
        add(x.type(' ', 1), x.line(0));
        add(Due.told(x, 0));
    }

    private void sheets() {
        for (int sheet = 0; sheet < 4; sheet++) {
            for (int lane = 0; lane < 3; lane++) {
                add(x.terms(1, sheet, lane, 0), x.terms(2, sheet, lane, 8));
            }
            add(Due.told(x, 1));
            add(Due.told(x, 2));
            add(x.away(sheet));
        }
    }
}
