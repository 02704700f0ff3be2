import java.lang.reflect.InvocationTargetException;
import java.lang.reflect.Method;
import java.util.ArrayList;
import java.util.HashMap;
import java.util.List;
import java.util.Map;
import java.util.Random;

/** Long runs of calls, the same ones in every run of the test, answered by the program and by the Model. */
public final class ModelTest {
    private static final int RUNS = 700;
    private static final int CALLS = 512;

    /** Of each method the least and the most that its numbers may well be. */
    private static final Map<String, int[]> RANGES = new HashMap<>();

    static {
        int[] line = {0, 3};
        RANGES.put("type", new int[] {0, 0, 1, 8});
        for (String name : new String[] {"line", "drop", "kind", "degree", "bends", "times", "crosses", "away"}) {
            RANGES.put(name, line);
        }
        RANGES.put("told", new int[] {0, 3, 0, 2, 0, 3});
        RANGES.put("at", new int[] {0, 3, -20, 20, 1, 20, 0, 1, 0, 1});
        RANGES.put("far", new int[] {0, 3, 0, 2});
        RANGES.put("equation", new int[] {0, 3, 0, 9});
        RANGES.put("lies", new int[] {0, 3, -20, 20, -20, 20, 1, 20});
        RANGES.put("law", new int[] {0, 3, 0, 5});
        RANGES.put("knot", new int[] {0, 3, 0, 2});
        RANGES.put("meets", new int[] {0, 3, -20, 20, -20, 20, -20, 20});
        RANGES.put("touch", new int[] {0, 3, -20, 20, 1, 20, 0, 2});
        RANGES.put("same", new int[] {0, 3, 0, 3});
        RANGES.put("anew", new int[] {0, 3, -5, 5, -5, 5, -5, 5, -5, 5});
        RANGES.put("move", new int[] {0, 3, -9, 9, -9, 9, -9, 9, -9, 9, -9, 9, -9, 9});
        RANGES.put("copy", new int[] {0, 3, 0, 3});
        RANGES.put("sheet", new int[] {0, 3, 0, 2, 0, 20});
        RANGES.put("item", new int[] {0, 3, 0, 2, 0, 19, -1000, 1000});
        RANGES.put("terms", new int[] {0, 3, 0, 3, 0, 2, 0, 8});
    }

    /** What would leave too little to ask about. */
    private static final List<String> SELDOM = List.of("drop", "line", "type", "away", "sheet");

    private final Due due;
    private final Random random;
    private final Map<String, Method> programs = new HashMap<>();
    private final Map<String, Method> models = new HashMap<>();
    private final List<String> names;
    private BentShares program;
    private Model model;
    private int run;
    private int calls;

    private ModelTest(Due due, long seed) {
        this.due = due;
        random = new Random(seed);
        for (Method method : BentShares.class.getMethods()) {
            if (RANGES.containsKey(method.getName())) {
                programs.put(method.getName(), method);
            }
        }
        for (Method method : Model.class.getDeclaredMethods()) {
            if (RANGES.containsKey(method.getName())) {
                models.put(method.getName(), method);
            }
        }
        names = new ArrayList<>(new java.util.TreeSet<>(programs.keySet()));
        due.is("methods", names.size(), RANGES.size());
    }

    public static void main(String[] args) throws ReflectiveOperationException {
        Due due = new Due("ModelTest");
        ModelTest test = new ModelTest(due, args.length > 0 ? Long.parseLong(args[0]) : 20261116);
        int runs = args.length > 1 ? Integer.parseInt(args[1]) : RUNS;
        for (test.run = 0; test.run < runs; test.run++) {
            test.one();
        }
        due.end();
    }

    private void one() throws ReflectiveOperationException {
        program = new BentShares();
        model = new Model();
        calls = 0;
        while (calls < CALLS) {
            int what = random.nextInt(20);
            if (what < 3) {
                text();
            } else if (what < 5) {
                terms();
            } else if (what < 9) {
                change();
            } else {
                for (int i = 0; i < 12; i++) {
                    any(names.get(random.nextInt(names.size())));
                }
            }
        }
    }

    private long ask(String name, Object... args) throws ReflectiveOperationException {
        if (calls >= CALLS) {
            return 0;
        }
        calls++;
        long wanted = ((Number) models.get(name).invoke(model, args)).longValue();
        String call = "run " + run + " call " + calls + " " + name + java.util.Arrays.toString(args);
        try {
            long got = ((Number) programs.get(name).invoke(program, args)).longValue();
            due.is(call, got, wanted);
        } catch (InvocationTargetException thrown) {
            due.isTrue(call + " threw " + thrown.getCause(), false);
        }
        return wanted;
    }

    private int number(int least, int most) {
        int kind = random.nextInt(60);
        if (kind == 0) {
            return least - 1;
        }
        if (kind == 1) {
            return most + 1;
        }
        if (kind == 2) {
            return random.nextBoolean() ? Integer.MIN_VALUE : Integer.MAX_VALUE;
        }
        if (kind < 10) {
            return random.nextBoolean() ? least : most;
        }
        return kind < 20 && least < -4 ? random.nextInt(5) - 2 : least + random.nextInt(most - least + 1);
    }

    private void any(String name) throws ReflectiveOperationException {
        if (SELDOM.contains(name) && random.nextInt(8) != 0) {
            return;
        }
        int[] ranges = RANGES.get(name);
        Object[] args = new Object[ranges.length / 2];
        for (int i = 0; i < args.length; i++) {
            args[i] = number(ranges[2 * i], ranges[2 * i + 1]);
        }
        if (name.equals("type")) {
            args[0] = random.nextInt(4) == 0 ? random.nextLong() : 0x7420207432203b31L;
        }
        ask(name, args);
    }

    private void change() throws ReflectiveOperationException {
        int line = random.nextInt(4);
        switch (random.nextInt(6)) {
            case 0 -> ask("anew", line, small(), small(), small(), small());
            case 1 -> ask("move", line, small(), small(), small(), small(), small(), small());
            case 2 -> ask("copy", line, random.nextInt(4));
            case 3 -> ask("same", line, random.nextInt(4));
            case 4 -> ask("crosses", line);
            default -> ask("meets", line, small(), small(), small());
        }
    }

    private int small() {
        return random.nextInt(5) - 2;
    }

    private long[] poly(int degree, int widest) {
        long[] numbers = new long[4];
        for (int k = 0; k <= degree; k++) {
            numbers[k] = random.nextInt(3) == 0 ? 0 : random.nextInt(2 * widest + 1) - widest;
        }
        return numbers;
    }

    /** Three polynomials, often with something in common, or on one straight, or with a knot that is told. */
    private long[][] shares(int most) {
        int common = random.nextInt(4);
        int degree = 3 - common;
        int wide = random.nextInt(3) == 0 ? 90 : 3;
        long[] factor = poly(common, wide);
        factor[common] = 1 + random.nextInt(wide);
        long scale = 1 + random.nextInt(3);
        long[][] shares = new long[3][];
        for (int i = 0; i < 3; i++) {
            shares[i] = random.nextInt(6) == 0 ? poly(0, 5) : poly(degree, 5);
        }
        if (random.nextInt(5) == 0) {
            int a = small();
            int b = small();
            for (int k = 0; k < 4; k++) {
                shares[0][k] = a * shares[1][k] + b * shares[2][k];
            }
        }
        for (int i = 0; i < 3; i++) {
            long[] product = new long[4];
            for (int j = 0; j <= common; j++) {
                for (int k = 0; j + k < 4; k++) {
                    product[j + k] += scale * factor[j] * shares[i][k];
                }
            }
            for (int k = 0; k < 4; k++) {
                product[k] = Math.max(-most, Math.min(most, product[k]));
            }
            shares[i] = product;
        }
        return shares;
    }

    private void text() throws ReflectiveOperationException {
        StringBuilder text = new StringBuilder();
        long[][] shares = shares(250);
        for (int i = 0; i < 3; i++) {
            text.append(i == 0 ? "" : ";").append(polyText(shares[i]));
        }
        if (random.nextInt(4) == 0) {
            String bytes = "  +-;t0123459x.7";
            int there = random.nextInt(text.length());
            char c = bytes.charAt(random.nextInt(bytes.length()));
            if (random.nextBoolean()) {
                text.insert(there, c);
            } else {
                text.setCharAt(there, c);
            }
        }
        for (int from = 0; from < text.length(); ) {
            int n = Math.min(1 + random.nextInt(8), text.length() - from);
            long w = random.nextInt();
            for (int i = 0; i < n; i++) {
                w = w << 8 | text.charAt(from + i);
            }
            ask("type", w, n);
            from += n;
        }
        ask("line", random.nextInt(4));
    }

    private String polyText(long[] numbers) {
        StringBuilder text = new StringBuilder();
        for (int i = 0; i < 12; i++) {
            int k = random.nextInt(3) == 0 ? i % 4 : 3 - i % 4;
            long number = Math.max(-99, Math.min(99, numbers[k]));
            numbers[k] -= number;
            if (number == 0) {
                continue;
            }
            text.append(number < 0 ? "-" : text.length() == 0 ? "" : "+");
            if (Math.abs(number) != 1 || k == 0 || random.nextInt(4) == 0) {
                text.append(Math.abs(number));
            }
            text.append(random.nextInt(9) == 0 ? " " : "").append(k == 0 ? "" : "t").append(k < 2 ? "" : "" + k);
        }
        return text.length() == 0 ? "0" : text.toString();
    }

    private void terms() throws ReflectiveOperationException {
        int sheet = random.nextInt(4);
        int lane = random.nextInt(3);
        int from = random.nextInt(3);
        ask("sheet", sheet, lane, 12 + from + random.nextInt(3));
        long[][] shares = random.nextInt(4) == 0
            ? new long[][] {poly(3, 1000), poly(3, 1000), poly(3, 1000)} : shares(1000);
        for (int i = 0; i < 12; i++) {
            ask("item", sheet, lane, from + i, (int) shares[i / 4][i % 4]);
        }
        ask("terms", random.nextInt(4), sheet, lane, from);
    }
}
