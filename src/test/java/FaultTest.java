import java.util.Random;
import java.util.regex.Matcher;
import java.util.regex.Pattern;

/**
 * The FAULT against a pattern made of the document's grammar: a text begins some WINDOW if it matches or if the
 * match only ran out of text.
 */
public final class FaultTest {
    private static final Checks checks = new Checks("faults");
    private static final String TEST = "[tlfn][<=>][0-9][0-9]?";
    private static final String CLAUSE = "(?:come [0-5] " + either(0) + "|price [0-9][0-9]?|more [0-9][0-9]?|most [0-9][0-9]?)";
    private static final Pattern WINDOW = Pattern.compile(CLAUSE + "(?:;" + CLAUSE + "){0,7}");

    private static String factor(int within) {
        return within == 4 ? TEST : "(?:" + TEST + "|!" + factor(within + 1) + "|\\(" + either(within + 1) + "\\))";
    }

    private static String both(int within) {
        return factor(within) + "(?:&" + factor(within) + ")*";
    }

    private static String either(int within) {
        return both(within) + "(?:\\|" + both(within) + ")*";
    }

    private static boolean begins(String text) {
        Matcher m = WINDOW.matcher(text);
        return m.matches() || m.hitEnd();
    }

    /** The FAULT, or -1, of a text that is told to begin some WINDOW with so many of its bytes. */
    private static int fault(String text, int fitting) {
        if (WINDOW.matcher(text).matches()) {
            return -1;
        }
        for (int i = fitting; i < text.length(); i++) {
            if (!begins(text.substring(0, i + 1))) {
                return i;
            }
        }
        return text.length();
    }

    public static void main(String[] args) {
        int texts = args.length > 0 ? Integer.parseInt(args[0]) : 3000;
        for (int seed = 0; seed < texts; seed++) {
            Random r = new Random(seed);
            String text = spoilt(r, Texts.window(r));
            int fault = fault(text, 0);
            checks.due("window of '" + text + "'", Checks.window(new PennyQueue(), text), fault < 0 ? 0 : -10 - fault);
        }
        everyByte("come 5 !(t<12&f>3)|n=07;price 1;more 20;most 5");
        everyByte("more 1;more 2;more 3;more 4;more 5;more 6;more 7;come 0 l>9");
        everyByte("come 1 ((((t=1))))&!!!!f<2;most 40");
        checks.end();
    }

    /** Each place of a text with each byte that there is. */
    private static void everyByte(String text) {
        for (int at = 0; at < text.length(); at++) {
            for (char c = 0; c < 256; c++) {
                String other = text.substring(0, at) + c + text.substring(at + 1);
                int fault = fault(other, at);
                checks.due("byte " + (int) c + " at " + at + " of '" + text + "'",
                    Checks.window(new PennyQueue(), other), fault < 0 ? 0 : -10 - fault);
            }
        }
    }

    /** With up to two bytes put in, taken out, changed, or the end cut off. */
    private static String spoilt(Random r, String text) {
        StringBuilder spoilt = new StringBuilder(text);
        String signs = " ;|&!()<=>tlfn0123456789comepriceorst";
        for (int k = r.nextInt(3); k > 0 && spoilt.length() > 0; k--) {
            int at = r.nextInt(spoilt.length());
            char sign = signs.charAt(r.nextInt(signs.length()));
            switch (r.nextInt(4)) {
                case 0 -> spoilt.setCharAt(at, sign);
                case 1 -> spoilt.insert(at, sign);
                case 2 -> spoilt.deleteCharAt(at);
                default -> spoilt.setLength(at);
            }
        }
        spoilt.setLength(Math.min(100, spoilt.length()));
        return spoilt.toString();
    }
}
