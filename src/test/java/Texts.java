import java.util.Random;

/** Random texts of windows, none longer than 100 bytes. */
final class Texts {
    private Texts() { }

    static String window(Random r) {
        for (int tries = 0; tries < 1000; tries++) {
            StringBuilder text = new StringBuilder();
            int clauses = 1 + r.nextInt(8);
            for (int c = 0; c < clauses; c++) {
                text.append(c == 0 ? "" : ";").append(clause(r));
            }
            if (text.length() <= 100) {
                return text.toString();
            }
        }
        return "most 9";
    }

    private static String clause(Random r) {
        switch (r.nextInt(9)) {
            case 0:
                return "price " + number(r, 24);
            case 1:
                return "more " + number(r, r.nextInt(3) == 0 ? 24 : 4);
            case 2:
                return "most " + number(r, 45);
            default:
                return "come " + r.nextInt(6) + " " + either(r, 0);
        }
    }

    private static String number(Random r, int most) {
        int n = r.nextInt(most + 1);
        return n < 10 && r.nextInt(6) == 0 ? "0" + n : "" + n;
    }

    private static String either(Random r, int within) {
        String e = both(r, within);
        while (r.nextInt(4) == 0) {
            e += "|" + both(r, within);
        }
        return e;
    }

    private static String both(Random r, int within) {
        String e = factor(r, within);
        while (r.nextInt(3) == 0) {
            e += "&" + factor(r, within);
        }
        return e;
    }

    private static String factor(Random r, int within) {
        int choice = r.nextInt(7);
        if (within < 4 && choice == 0) {
            return "!" + factor(r, within + 1);
        }
        if (within < 4 && choice == 1) {
            return "(" + either(r, within + 1) + ")";
        }
        char letter = "tlfn".charAt(r.nextInt(4));
        return "" + letter + "<=>".charAt(r.nextInt(3)) + number(r, letter == 't' ? 60 : letter == 'n' ? 30 : 5);
    }
}
