/** The edges of THE TEXT: how long, how many, how deep, from which sign to which; and what its clauses then do. */
public final class TextEdgeTest {
    private static final Checks checks = new Checks("text edges");

    public static void main(String[] args) {
        bytes();
        fed();
        clauses();
        words();
        figures();
        signs();
        nested();
        spoilt();
        cutShort();
        caps();
        lastOnes();
        without();
        windowsHeld();
        afterManyFaults();
        capsInTheHour();
        checks.end();
    }

    private static void due(String what, long got, long want) {
        checks.due(what, got, want);
    }

    /** What window() answers to a text on a new object: the place of the FAULT, or -1. */
    private static void fault(String text, int place) {
        due("fault of '" + text + "'", Checks.window(new PennyQueue(), text), place < 0 ? 0 : -10 - place);
    }

    private static String many(String part, int n) {
        return part.repeat(n);
    }

    // ---- THE TEXT: bytes, 100 at most

    private static void bytes() {
        String hundred = "come 0 t<1" + many("|t<1", 20) + many("|t<11", 2);
        due("a hundred", hundred.length(), 100);
        fault(hundred, -1);
        fault(hundred.substring(0, 99), -1);
        fault(hundred.substring(0, 98), 98);
        fault("come 0 t<1" + many("|t<1", 21) + "|t<11|", 100);
        fault(hundred.substring(0, 99) + "x", 99);
        PennyQueue x = new PennyQueue();
        Checks.feed(x, hundred);
        due("a hundred bytes", x.count(4), 100);
        due("one more", x.feed('x', 1), -4);
        due("four more", x.feed(0x78787878, 4), -4);
        due("the hundred stay", x.count(4), 100);
        due("and are a window", x.window(), 0);
    }

    private static void fed() {
        for (int n = 1; n <= 4; n++) {
            PennyQueue x = new PennyQueue();
            for (int k = 0; k < 100 - n; k++) {
                x.feed(' ', 1);
            }
            due("the last " + n, x.feed(0, n), 100);
            PennyQueue y = new PennyQueue();
            for (int k = 0; k < 101 - n; k++) {
                y.feed(' ', 1);
            }
            due(n + " where " + (n - 1) + " have room", y.feed(0, n), -4);
            due("all that was", y.count(4), 101 - n);
        }
        // the lowest bytes, the highest of them first
        String[] read = {"", "1", "e 1", "mor", "ore "};
        for (int n = 0; n <= 4; n++) {
            PennyQueue x = new PennyQueue();
            String ahead = n == 4 ? "m" : n == 3 ? "" : n == 2 ? "more" : "more ";
            Checks.feed(x, ahead);
            int bytes = n == 4 ? 0x6f726520 : n == 3 ? 0x216d6f72 : n == 2 ? 0x21212031 : n == 1 ? 0x21212131 : 0x21212121;
            due("feed " + n, x.feed(bytes, n), ahead.length() + n);
            Checks.feed(x, n == 4 ? "1" : n == 3 ? "e 1" : n == 0 ? "1" : "");
            due("read " + read[n], x.window(), 0);
            due("told", x.told(1), 1);
        }
        PennyQueue z = new PennyQueue();
        due("a number below 0", z.feed(0xff6d6f72, 3), 3);
        due("all four of one below 0", z.feed(-1, 4), 7);
        due("its bytes are none", z.window(), -13);
        due("n -1", z.feed(0, -1), -2);
        due("n 5", z.feed(0, 5), -2);
        due("the least n", z.feed(0, Integer.MIN_VALUE), -2);
        due("the most n", z.feed(0, Integer.MAX_VALUE), -2);
        due("n 0 of nothing", z.feed(0, 0), 0);
    }

    // ---- CLAUSES, 1 to 8

    private static void clauses() {
        fault("", 0);
        for (int n = 1; n <= 8; n++) {
            fault("more 1" + many(";more 1", n - 1), -1);
            fault("more 1" + many(";more 1", n - 1) + ";", n < 8 ? 7 * n : 55);
        }
        fault("more 1" + many(";more 1", 8), 55);
        // eight comes, each of them counts; no ninth of any sort
        String eight = "come 0 t=0";
        for (int k = 1; k < 8; k++) {
            eight += ";come 0 t=" + k;
        }
        PennyQueue x = Made.of(Made.s(0, 99, 0, 1));
        x.order(0, 1);
        due("eight comes", Checks.window(x, eight), 0);
        checks.dues("all eight", Made.comers(x, 0, 1), 0, 1, 2, 3, 4, 5, 6, 7);
        fault(eight + ";most 9", 87);
        fault(many("more 1;", 7) + "come 0 t=1", -1);
        fault(many("more 1;", 8) + "come 0 t=1", 55);
        fault(";", 0);
        fault("more 1;;more 1", 7);
        fault("more 1,more 1", 6);
        fault("more 1; more 1", 7);
        fault("more 1 ;more 1", 6);
    }

    // ---- one blank ahead of each part behind the word

    private static void words() {
        fault(" come 0 t=1", 0);
        fault("come0 t=1", 4);
        fault("come  0 t=1", 5);
        fault("come 0t=1", 6);
        fault("come 0  t=1", 7);
        fault("come 0 t =1", 8);
        fault("come 0 t= 1", 9);
        fault("come 0 t=1 &t=1", 10);
        fault("come 0 t=1& t=1", 11);
        fault("come 0 ! t=1", 8);
        fault("come 0 ( t=1)", 8);
        fault("come 0 (t=1 )", 11);
        fault("price1", 5);
        fault("price  1", 6);
        fault("price 1 ", 7);
        fault("price\t1", 5);
        fault("more1", 4);
        fault("more  1", 5);
        fault("most1", 4);
        fault("most  1", 5);
        fault("Price 1", 0);
        fault("pRice 1", 1);
        fault("cone 0 t=1", 2);
        fault("comes 0 t=1", 4);
        fault("prices 1", 5);
        fault("mores 1", 4);
        fault("mosts 1", 4);
        fault("moze 1", 2);
        fault("mist 1", 1);
    }

    // ---- k a figure 0 .. 5; n 1 or 2 digits

    private static void figures() {
        for (int k = 0; k <= 5; k++) {
            fault("come " + k + " t=1", -1);
        }
        fault("come / t=1", 5);
        fault("come 6 t=1", 5);
        fault("come 9 t=1", 5);
        fault("come : t=1", 5);
        fault("come -1 t=1", 5);
        fault("come 05 t=1", 6);
        for (String word : new String[] {"price ", "more ", "most ", "come 0 t=", "come 0 n>"}) {
            int at = word.length();
            fault(word, at);
            fault(word + "/", at);
            fault(word + ":", at);
            fault(word + "-1", at);
            fault(word + "0", -1);
            fault(word + "9", -1);
            fault(word + "0/", at + 1);
            fault(word + "0:", at + 1);
            fault(word + "00", -1);
            fault(word + "99", -1);
            fault(word + "100", at + 2);
            fault(word + "000", at + 2);
            fault(word + "1a", at + 1);
        }
    }

    // ---- a letter, < or = or >, a number

    private static void signs() {
        String letters = "tlfn", signs = "<=>";
        for (char c = 0; c < 256; c++) {
            boolean letter = letters.indexOf(c) >= 0, sign = signs.indexOf(c) >= 0, opens = c == '!' || c == '(';
            fault("come 0 " + c + "=1", letter ? -1 : opens ? 8 : 7);
            fault("come 0 t" + c + "1", sign ? -1 : 8);
            boolean digit = c >= '0' && c <= '9';
            fault("come 0 t=1" + c, digit ? -1 : c == '&' || c == '|' || c == ';' ? 11 : 10);
            fault("price 1" + c, digit ? -1 : c == ';' ? 8 : 7);
            fault("" + c, c == 'c' || c == 'p' || c == 'm' ? 1 : 0);
        }
        fault("come 0 tt=1", 8);
        fault("come 0 t==1", 9);
        fault("come 0 t<=1", 9);
        fault("come 0 t", 8);
        fault("come 0 t=", 9);
        fault("come 0 =1", 7);
        fault("come 0 1=t", 7);
        fault("come 0 t=1t=1", 10);
        fault("come 0 t=1!t=1", 10);
        fault("come 0 t=1(t=1)", 10);
        fault("come 0 t=1&&t=1", 11);
        fault("come 0 t=1||t=1", 11);
        fault("come 0 &t=1", 7);
        fault("come 0 |t=1", 7);
        fault("come 0 !&t=1", 8);
        fault("come 0 )", 7);
        fault("come 0 (t=1))", 12);
        fault("come 0 (t=1;more 1", 11);
        fault("come 0 (t=1|t=2", 15);
    }

    // ---- a ( or ! within 4 others is none

    private static void nested() {
        for (int depth = 1; depth <= 5; depth++) {
            for (int bits = 0; bits < 1 << depth; bits++) {
                String open = "", close = "";
                for (int k = 0; k < depth; k++) {
                    boolean not = (bits >> k & 1) == 1;
                    open += not ? "!" : "(";
                    close += not ? "" : ")";
                }
                fault("come 0 " + open + "t=1" + close, depth <= 4 ? -1 : 11);
            }
        }
        // beside one another they don't count together
        fault("come 0 !!!!t=1&!!!!t=1|((((t=1))))&!((!t=1))", -1);
        fault("come 0 ((((t=1&t=2|t=3))))", -1);
        fault("come 0 (((!t=1&(t=2))))", -1);
        fault("come 0 (((!t=1&!t=2|(t=3&t=4))))|!t=5", -1);
        fault("come 0 ((((t=1&!t=2))))", 15);
        fault("come 0 ((((t=1|(t=2)))))", 15);
        fault("come 0 (((!!t=1)))", 11);
        fault("come 0 ((((t=1)))))", 18);
        fault("come 0 ((((t=1)))", 17);
        // in the second clause it begins anew
        fault("come 0 ((((t=1))));come 1 ((((t=1))))", -1);
        fault("come 0 ((((t=1))));come 1 (((((t=1)))))", 30);
    }

    /** In a text that is a WINDOW, each byte with its highest bit is the first that doesn't fit. */
    private static void spoilt() {
        String text = "come 5 !(t<12&f>3)|n=7;price 12;more 3;most 25";
        fault(text, -1);
        for (int i = 0; i < text.length(); i++) {
            String ahead = text.substring(0, i), behind = text.substring(i + 1);
            fault(ahead + (char) (text.charAt(i) | 128) + behind, i);
            fault(ahead + (char) 0 + behind, i);
            fault(ahead + (char) 255, i);
        }
    }

    private static void cutShort() {
        String text = "come 5 !(t<12&f>3)|n=7;price 12;more 3;most 25";
        String ends = ",18,22,30,31,38,45,46,";
        for (int n = 0; n <= text.length(); n++) {
            fault(text.substring(0, n), ends.contains("," + n + ",") ? -1 : n);
        }
    }

    // ---- 20 at most, 40 at most; the last one's n; without

    private static void caps() {
        String[] words = {"price ", "more ", "most "};
        int[] caps = {20, 20, 40};
        for (int what = 0; what < 3; what++) {
            for (int n = 0; n <= 99; n++) {
                PennyQueue x = new PennyQueue();
                due("a window", Checks.window(x, words[what] + n), 0);
                due(words[what] + n, x.told(what), Math.min(n, caps[what]));
            }
            PennyQueue y = new PennyQueue();
            Checks.window(y, words[what] + "00");
            due(words[what] + "00", y.told(what), 0);
            Checks.window(y, words[what] + "07");
            due(words[what] + "07", y.told(what), 7);
        }
    }

    private static void lastOnes() {
        String[] words = {"price ", "more ", "most "};
        int[] caps = {20, 20, 40};
        for (int what = 0; what < 3; what++) {
            PennyQueue x = new PennyQueue();
            Checks.window(x, words[what] + "3;" + words[what] + "5");
            due("the last is more", x.told(what), 5);
            Checks.window(x, words[what] + "5;" + words[what] + "3");
            due("the last is less", x.told(what), 3);
            Checks.window(x, words[what] + "99;" + words[what] + "4");
            due("the last is not cut", x.told(what), 4);
            Checks.window(x, words[what] + "4;" + words[what] + "99");
            due("the last is cut", x.told(what), caps[what]);
            Checks.window(x, words[what] + "4;" + words[what] + "0;come 0 t=1");
            due("the last is 0", x.told(what), 0);
        }
    }

    private static void without() {
        PennyQueue x = new PennyQueue();
        checks.dues("without a window", tolds(x), 0, 0, 30);
        Checks.window(x, "come 0 t=1");
        checks.dues("without such a clause", tolds(x), 0, 0, 30);
        Checks.window(x, "price 4");
        checks.dues("with a price alone", tolds(x), 4, 0, 30);
        Checks.window(x, "more 4");
        checks.dues("with a more alone", tolds(x), 0, 4, 30);
        Checks.window(x, "most 4");
        checks.dues("with a most alone", tolds(x), 0, 0, 4);
    }

    private static long[] tolds(PennyQueue x) {
        return new long[] {x.told(0), x.told(1), x.told(2)};
    }

    // ---- the newest WINDOW holds (6 at most)

    private static void windowsHeld() {
        PennyQueue x = Made.of(Made.s(0, 99, 0, 1));
        x.order(0, 1);
        due("an empty text is none", x.window(), -10);
        due("still no window", x.count(1), 0);
        for (int k = 0; k < 6; k++) {
            due("window " + k, Checks.window(x, "price " + k + ";come 0 t=" + k), k);
            due("there are", x.count(1), k + 1);
            due("its price", x.told(0), k);
            checks.dues("its come", Made.comers(x, 0, 1), k);
            due("an empty text", x.window(), k < 5 ? -10 : -4);
            due("it holds yet", x.told(0), k);
        }
        due("a seventh", Checks.window(x, "price 9"), -4);
        due("its text stays", x.count(4), 7);
        due("it can go on", Checks.window(x, "9;come 0 t=9"), -4);
        due("the sixth holds", x.told(0), 5);
        checks.dues("with its come", Made.comers(x, 0, 1), 5);
        // a fault in the last place that is free takes no place
        PennyQueue y = new PennyQueue();
        for (int k = 0; k < 5; k++) {
            Checks.window(y, "price " + k);
        }
        due("a fault", Checks.window(y, "price 7;more 7;come 0 t=1;"), -36);
        checks.dues("the fifth holds", tolds(y), 4, 0, 30);
        due("five", y.count(1), 5);
        due("the sixth", Checks.window(y, "more 9"), 5);
        checks.dues("nothing of the faulty one", tolds(y), 0, 9, 30);
    }

    /** Ever so many texts with a fault leave nothing behind for the one without. */
    private static void afterManyFaults() {
        String long1 = "come 0 t<1" + many("|t<1", 22), long2 = "come 1 n<0" + many("&n<0", 22);
        PennyQueue x = Made.of(Made.s(0, 99, 0, 1), Made.s(0, 99, 0, 1));
        x.order(0, 1);
        for (int k = 0; k < 4; k++) {
            due("a fault", Checks.windowByFours(x, long1 + "!"), -108);
            due("another", Checks.windowByFours(x, "price 9;more 9;most 9;come 1 t<60;come 0 t<60;"), -56);
            due("and another", Checks.windowByFours(x, long2 + "|"), -109);
        }
        due("a window", Checks.windowByFours(x, "come 0 t=2|t=4&!t=5|(t=7)"), 0);
        checks.dues("who comes", Made.comers(x, 0, 0), 0, 0, 0);
        checks.dues("when", Made.comers(x, 0, 1), 2, 4, 7);
        checks.dues("told", tolds(x), 0, 0, 30);
        due("a long one", Checks.windowByFours(x, long1), 1);
        checks.dues("when", Made.comers(x, 0, 1), 0);
    }

    // ---- what is told beyond the limits is cut in the hour, too

    private static void capsInTheHour() {
        PennyQueue x = Made.of(Made.s(9, 99, 20, 1), Made.s(0, 99, 0, 9));
        Made.come(x, 0, 1, 0);
        x.order(1, 1);
        Checks.window(x, "price 21");
        checks.dues("a price of 20", Made.comers(x, 0, 3), 0, 20);
        Checks.window(x, "more 21;come 1 t<60;most 41");
        checks.dues("a time of 29; 40 come", Made.alls(x, 0), 40, 40, 39, 0, 0, 0, 1 + 20 + 39 * 29, 0);
        PennyQueue y = Made.of(Made.s(0, 99, 0, 1));
        y.order(0, 1);
        Checks.window(y, "come 0 t<60;most 39");
        due("39", y.all(0, 0), 39);
        Checks.window(y, "come 0 t<60;most 40");
        due("40", y.all(0, 0), 40);
        Checks.window(y, "come 0 t<60;most 1");
        due("1", y.all(0, 0), 1);
        Checks.window(y, "come 0 t<60;most 0");
        due("0", y.all(0, 0), 0);
        Checks.window(y, "come 0 t<60");
        due("30 without", y.all(0, 0), 30);
    }
}
