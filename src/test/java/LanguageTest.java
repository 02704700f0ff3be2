import java.io.IOException;
import java.lang.reflect.Field;
import java.lang.reflect.Method;
import java.lang.reflect.Modifier;
import java.nio.file.Files;
import java.nio.file.Path;
import java.util.ArrayList;
import java.util.List;
import java.util.Set;
import java.util.regex.Matcher;
import java.util.regex.Pattern;

/** The rules of ../shared/LANGUAGE.md that can be seen from the text and the shape of the class. */
public final class LanguageTest {
    private static final Path SOURCE = Path.of("src/main/java/BentShares.java");
    private static final Pattern COMMENT = Pattern.compile("/\\*.*?\\*/|//[^\n]*", Pattern.DOTALL);
    private static final Pattern HEAD = Pattern.compile("(?m)^ +[\\w \\[\\]]+\\([^()]*\\) \\{$");
    private static final Pattern LIBRARY = Pattern.compile("\\b(Arrays|System|Math|Long|Integer)\\.(\\w+)");

    /** Of rules 2, 4, 6 and 13. */
    private static final String[] FORBIDDEN = {"->", "::", "throw", "throws", "try", "catch", "finally", "synchronized",
        "assert", "package", "static {", "Object", "Random", "Thread", "Runtime", "equals(", "hashCode", "toString"};
    private static final Set<String> ALLOWED = Set.of("Arrays.fill", "Arrays.copyOf", "Arrays.copyOfRange",
        "System.arraycopy", "Math.abs", "Math.min", "Math.max", "Long.signum");
    private static final Set<Class<?>> CONSTANT_TYPES = Set.of(int.class, long.class, boolean.class, char.class,
        String.class, int[].class, long[].class, char[].class, byte[].class);

    public static void main(String[] args) throws IOException {
        Due due = new Due("LanguageTest");
        String text = COMMENT.matcher(Files.readString(SOURCE)).replaceAll(" ");
        words(due, text);
        library(due, text);
        lengths(due, text);
        List<Class<?>> classes = new ArrayList<>(List.of(BentShares.class.getDeclaredClasses()));
        classes.add(BentShares.class);
        due.isTrue("some twelve classes: " + classes.size(), classes.size() <= 12);
        for (Class<?> each : classes) {
            fields(due, each);
            methods(due, each);
        }
        onlyNamedClasses(due, classes.size());
        due.end();
    }

    private static void words(Due due, String text) {
        for (String word : FORBIDDEN) {
            boolean isWord = Character.isLetter(word.charAt(0)) && Character.isLetter(word.charAt(word.length() - 1));
            Pattern pattern = Pattern.compile(isWord ? "\\b" + word + "\\b" : Pattern.quote(word));
            due.isTrue("no " + word, !pattern.matcher(text).find());
        }
        due.isTrue("no name that ends in Exact", !text.contains("Exact("));
    }

    private static void library(Due due, String text) {
        Matcher used = LIBRARY.matcher(text);
        while (used.find()) {
            due.isTrue(used.group() + " may be used", ALLOWED.contains(used.group()));
        }
        for (String line : text.split("\n")) {
            if (line.startsWith("import")) {
                due.isTrue(line, line.equals("import java.util.Arrays;"));
            }
        }
    }

    /** A method ends where a line closes it with as many blanks ahead as its head has. */
    private static void lengths(Due due, String text) {
        Matcher head = HEAD.matcher(text);
        int methods = 0;
        while (head.find()) {
            String blanks = head.group().substring(0, head.group().length() - head.group().stripLeading().length());
            int end = text.indexOf("\n" + blanks + "}", head.end());
            due.isTrue(head.group() + " ends", end >= 0);
            long lines = text.substring(head.start(), Math.max(end, head.end())).lines().count();
            due.isTrue(head.group() + " is short: " + lines, lines <= 60);
            methods++;
        }
        due.isTrue("methods are found: " + methods, methods > 50);
    }

    private static void fields(Due due, Class<?> each) {
        int held = 0;
        for (Field field : each.getDeclaredFields()) {
            if (Modifier.isStatic(field.getModifiers())) {
                due.isTrue(field + " is final", Modifier.isFinal(field.getModifiers()));
                due.isTrue(field + " is a constant", CONSTANT_TYPES.contains(field.getType()));
            } else {
                held++;
            }
        }
        due.isTrue(each + " has some twenty fields: " + held, held <= 20);
    }

    private static void methods(Due due, Class<?> each) {
        for (Method method : each.getDeclaredMethods()) {
            due.isTrue(method + " takes seven at most", method.getParameterCount() <= 7);
            due.isTrue(method + " is written out", !method.isSynthetic());
        }
    }

    /** No class without a name and none in a method has left a file beside the others. */
    private static void onlyNamedClasses(Due due, int classes) {
        int found = 0;
        java.io.File[] files = new java.io.File(BentShares.class.getResource("BentShares.class").getPath())
            .getParentFile().listFiles();
        for (java.io.File file : files) {
            found += file.getName().matches("BentShares(\\$.*)?\\.class") ? 1 : 0;
        }
        due.is("class files", found, classes);
    }
}
