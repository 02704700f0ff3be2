import java.nio.charset.StandardCharsets;

/** Counts the answers of a test that are not the ones that are due, and tells them. */
final class Due {
    private final String test;
    private int asked;
    private int wrong;
    private String sentence = "";

    Due(String test) {
        this.test = test;
    }

    /** What follows tests this sentence of the document. */
    void sentence(String words) {
        sentence = " \"" + words + "\"";
    }

    void is(String call, long got, long due) {
        asked++;
        if (got != due) {
            wrong++;
            if (wrong <= 50) {
                System.out.println(test + sentence + ": " + call + " answered " + got + ", due is " + due);
            }
        }
    }

    void isTrue(String what, boolean so) {
        is(what, so ? 1 : 0, 1);
    }

    void rows(String call, long[] got, long... due) {
        is(call + ": how many", got.length, due.length);
        for (int i = 0; i < Math.min(got.length, due.length); i++) {
            is(call + " [" + i + "]", got[i], due[i]);
        }
    }

    void end() {
        System.out.println(test + ": " + asked + " asked, " + wrong + " wrong");
        if (wrong != 0 || asked == 0) {
            System.exit(1);
        }
    }

    static void put(BentShares x, String text) {
        byte[] bytes = text.getBytes(StandardCharsets.ISO_8859_1);
        for (int from = 0; from < bytes.length; from += 8) {
            int n = Math.min(8, bytes.length - from);
            long w = 0;
            for (int i = 0; i < n; i++) {
                w = w << 8 | bytes[from + i] & 255;
            }
            x.type(w, n);
        }
    }

    /** Types a text and makes it a LINE. */
    static int line(BentShares x, int line, String text) {
        put(x, text);
        return x.line(line);
    }

    /** Makes a LINE of twelve numbers, by way of SHEET 3. */
    static int terms(BentShares x, int line, long... numbers) {
        x.sheet(3, 1, 12);
        for (int i = 0; i < numbers.length; i++) {
            x.item(3, 1, i, (int) numbers[i]);
        }
        return x.terms(line, 3, 1, 0);
    }

    static BentShares with(String... texts) {
        BentShares x = new BentShares();
        for (int i = 0; i < texts.length; i++) {
            if (!texts[i].isEmpty()) {
                line(x, i, texts[i]);
            }
        }
        return x;
    }

    static long[] told(BentShares x, int line) {
        long[] row = new long[12];
        for (int i = 0; i < 12; i++) {
            row[i] = x.told(line, i / 4, i % 4);
        }
        return row;
    }

    static long[] equation(BentShares x, int line) {
        long[] row = new long[10];
        for (int i = 0; i < 10; i++) {
            row[i] = x.equation(line, i);
        }
        return row;
    }

    static long[] law(BentShares x, int line) {
        long[] row = new long[6];
        for (int i = 0; i < 6; i++) {
            row[i] = x.law(line, i);
        }
        return row;
    }

    static long[] knot(BentShares x, int line) {
        return new long[] {x.knot(line, 0), x.knot(line, 1), x.knot(line, 2)};
    }

    static long[] far(BentShares x, int line) {
        return new long[] {x.far(line, 0), x.far(line, 1), x.far(line, 2)};
    }

    /** x above, x below, y above, y below. */
    static long[] place(BentShares x, int line, int above, int below) {
        return new long[] {x.at(line, above, below, 0, 0), x.at(line, above, below, 0, 1),
            x.at(line, above, below, 1, 0), x.at(line, above, below, 1, 1)};
    }

    static long[] touch(BentShares x, int line, int above, int below) {
        return new long[] {x.touch(line, above, below, 0), x.touch(line, above, below, 1),
            x.touch(line, above, below, 2)};
    }
}
