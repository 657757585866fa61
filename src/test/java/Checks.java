/** Counts and prints the answers that are not the due ones. */
final class Checks {
    private final String about;
    private int asked;
    private int wrong;

    Checks(String about) {
        this.about = about;
    }

    void due(String what, long got, long want) {
        asked++;
        if (got != want) {
            wrong++;
            if (wrong <= 40) {
                System.out.println(about + ": " + what + " answered " + got + ", due is " + want);
            }
        }
    }

    /** The answers of calls, in their order, against the due ones. */
    void dues(String what, long[] got, long... want) {
        due(what + ", how many", got.length, want.length);
        for (int i = 0; i < Math.min(got.length, want.length); i++) {
            due(what + " [" + i + "]", got[i], want[i]);
        }
    }

    void end() {
        System.out.println(about + ": " + asked + " answers, " + wrong + " not as due");
        if (wrong != 0 || asked == 0) {
            System.exit(1);
        }
    }

    /** Feeds a text byte by byte. */
    static void feed(PennyQueue x, String text) {
        for (int i = 0; i < text.length(); i++) {
            x.feed(text.charAt(i), 1);
        }
    }

    /** What window() answers to a text. */
    static int window(PennyQueue x, String text) {
        feed(x, text);
        return x.window();
    }

    /** What window() answers to a text, with few calls. */
    static int windowByFours(PennyQueue x, String text) {
        for (int at = 0; at < text.length(); at += 4) {
            four(x, text, at);
        }
        return x.window();
    }

    /** Feeds the four bytes of a text from a place on, or those that are left, by one call. */
    static int four(PennyQueue x, String text, int at) {
        int bytes = 0, n = Math.min(4, text.length() - at);
        for (int k = 0; k < n; k++) {
            bytes = bytes << 8 | text.charAt(at + k);
        }
        return x.feed(bytes, n);
    }
}
