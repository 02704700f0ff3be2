import java.util.regex.Matcher;
import java.util.regex.Pattern;

/**
 * FAULTS of line() in all short texts behind some beginnings. A byte can't stand where it is if no text that
 * is a LINE begins so; a pattern of such texts tells whether it was stopped by a byte or by the end.
 */
public final class FaultsTest {
    private static final String BYTES = "t012349+-; x";
    private static final int LONGEST = 4;
    private static final String[] BEGINNINGS = {"", "t", " -", "7t", "1;t;", "1;t;9", "1;t;t 3", "t;2-;1"};

    private static final String POWER = "t(?: *[23])?";
    private static final String TERM = "(?:0*[0-9]{1,2}(?: *" + POWER + ")?|" + POWER + ")";
    private static final String POLYNOMIAL = " *(?:- *)?" + TERM + "(?: *[+-] *" + TERM + ")* *";
    private static final Pattern LINE = Pattern.compile(POLYNOMIAL + ";" + POLYNOMIAL + ";" + POLYNOMIAL);

    private static final Pattern NUMBER = Pattern.compile("[0-9]+$");

    private final Due due = new Due("FaultsTest");
    private final BentShares program = new BentShares();
    private int fine;

    public static void main(String[] args) {
        FaultsTest test = new FaultsTest();
        for (String beginning : BEGINNINGS) {
            test.all(beginning, LONGEST);
        }
        test.due.isTrue("some texts are LINES", test.fine > 100);
        test.due.end();
    }

    private void all(String text, int more) {
        ask(text);
        for (int i = 0; i < BYTES.length() && more > 0; i++) {
            all(text + BYTES.charAt(i), more - 1);
        }
    }

    private void ask(String text) {
        int answer = Due.line(program, 0, text);
        if (LINE.matcher(text).matches()) {
            fine++;
            due.isTrue("'" + text + "' is no FAULT: " + answer, answer >= BentShares.NOT);
        } else {
            due.is("'" + text + "'", answer, -20 - fault(text));
        }
    }

    private static int fault(String text) {
        int place = 0;
        while (place < text.length() && goesOn(text.substring(0, place + 1))) {
            place++;
        }
        Matcher number = NUMBER.matcher(text.substring(0, Math.min(place + 1, text.length())));
        boolean above = place < text.length() && number.find() && Integer.parseInt(number.group()) > 99;
        return above ? number.start() : place;
    }

    private static boolean goesOn(String beginning) {
        Matcher matcher = LINE.matcher(beginning);
        return matcher.matches() || matcher.hitEnd();
    }
}
