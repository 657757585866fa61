/** The edges of the hour: who comes, who joins which line at what price, who is next, and when. */
public final class HourEdgeTest {
    private static final Checks checks = new Checks("hour edges");

    public static void main(String[] args) {
        nobody();
        one();
        minutes();
        most();
        order();
        tests();
        everyTest();
        joined();
        linesAsTheyAreThen();
        ahead();
        aheadOfEachLine();
        priceAndPurse();
        costOfTheLines();
        costAndService();
        length();
        full();
        poor();
        told();
        toldAsFirst();
        next();
        share();
        behindThoseWhoCome();
        tillAllAreServed();
        stand();
        eachHourByItself();
        checks.end();
    }

    private static void due(String what, long got, long want) {
        checks.due(what, got, want);
    }

    private static int[] s(int worth, int service, int purse, int time) {
        return Made.s(worth, service, purse, time);
    }

    /** The lines that those who come go to, by an order that is there. */
    private static void lines(String what, PennyQueue x, int order, long... want) {
        checks.dues(what, Made.comers(x, order, 2), want);
    }

    // ---- nobody, one

    private static void nobody() {
        PennyQueue none = Made.allKinds(new PennyQueue(), 1);
        PennyQueue sorted = Made.allKinds(Made.of(s(9, 99, 20, 9)), 1);
        Checks.window(sorted, "come 1 t<60;price 3;more 2");
        for (PennyQueue x : new PennyQueue[] {none, sorted}) {
            for (int k = 0; k < 7; k++) {
                checks.dues("nobody", Made.alls(x, k), 0, 0, 0, 0, 0, 0, 0, 0);
                due("no comer", x.comer(k, 0, 0), -1001);
                due("none served", x.served(k, 0, 0), -1);
                due("none stands", x.stand(k, 0, 0), 0);
                due("none pays", x.stand(k, 1, 99), 0);
                long[] prices = {0, 0, 1, 0, 0};
                for (int what = 0; what < 5; what++) {
                    due("price " + what, x.price(k, what), prices[what]);
                }
                due("none is worse off", x.worse(k), 0);
                due("slow", x.slow(k, 9), 0);
                due("sell", x.sell(k), 0);
                due("mean", x.mean(k, 0), 0);
                due("mean below", x.mean(k, 1), 1);
            }
        }
        due("loss of nobody", sorted.loss(1, 0), 0);
        due("early before nobody", sorted.early(1, 0, 0), 0);
        due("it waits", sorted.early(1, 0, 1), 0);
    }

    private static void one() {
        for (int minute : new int[] {0, 1, 58, 59}) {
            for (int k = 0; k < 7; k++) {
                // nothing to wait for, so even a service of 0 is worth it; and nothing to be ahead of, so the free line
                PennyQueue x = Made.come(Made.allKinds(Made.of(s(9, 0, 20, 9)), 1), minute, 0);
                checks.dues("one", Made.alls(x, k), 1, 1, 1, 0, 0, 0, minute + 9, 0);
                long[] comer = {0, minute, 0, 0, 0, 0};
                for (int what = 0; what < 6; what++) {
                    due("the one, " + what, x.comer(k, 0, what), comer[what]);
                }
                due("who", x.served(k, 0, 0), 0);
                due("when", x.served(k, 0, 1), minute);
                due("comer 1", x.comer(k, 1, 0), -1001);
                due("served 1", x.served(k, 1, 0), -1);
                due("doesn't stand", x.stand(k, 0, minute), 0);
            }
        }
    }

    // ---- MINUTES 0 .. 59; most

    private static void minutes() {
        String[] tests = {"t<0", "t<1", "t<2", "t=0", "t=1", "t=59", "t=60", "t>57", "t>58", "t>59", "t>99", "t=00", "t<01"};
        long[][] come = {{}, {0}, {0, 1}, {0}, {1}, {59}, {}, {58, 59}, {59}, {}, {}, {0}, {0}};
        for (int k = 0; k < tests.length; k++) {
            PennyQueue x = Made.of(s(0, 99, 0, 1));
            x.order(0, 1);
            Checks.window(x, "come 0 " + tests[k]);
            checks.dues(tests[k], Made.comers(x, 0, 1), come[k]);
        }
        PennyQueue y = Made.of(s(0, 99, 0, 1));
        y.order(0, 1);
        Checks.window(y, "come 0 t>20&t<99;most 40");
        due("from 21 to 59", y.all(0, 0), 39);
        due("the last in 59", y.comer(0, 38, 1), 59);
        Checks.window(y, "come 0 t>19;most 40");
        due("from 20 to 59", y.all(0, 0), 40);
        due("the fortieth in 59", y.comer(0, 39, 1), 59);
        Checks.window(y, "come 0 t>18;most 40");
        due("40 at most", y.all(0, 0), 40);
        due("the fortieth in 58", y.comer(0, 39, 1), 58);
    }

    private static void most() {
        for (int most = 0; most <= 13; most++) {
            PennyQueue x = Made.of(s(0, 99, 0, 1));
            x.order(0, 1);
            for (int k = 0; k < 12; k++) {
                x.come(0, k / 4 * 29);
            }
            Checks.window(x, "most " + most);
            due("by hand, most " + most, x.all(0, 0), Math.min(most, 12));
        }
        // by hand ahead of the text's; of those, by their sorts' numbers
        long[][] come = {{}, {1}, {1, 1}, {1, 1, 0}, {1, 1, 0, 1}, {1, 1, 0, 1, 2}, {1, 1, 0, 1, 2, 0}};
        for (int most = 0; most < come.length; most++) {
            PennyQueue x = Made.of(s(0, 99, 0, 1), s(0, 99, 0, 1), s(0, 99, 0, 1));
            Made.come(x, 0, 1, 1);
            x.order(0, 1);
            Checks.window(x, "come 2 t=0;come 1 t=0;come 0 t<2;most " + most);
            checks.dues("most " + most, Made.comers(x, 0, 0), come[most]);
        }
        // those who go home count
        PennyQueue y = Made.come(Made.of(s(9, 0, 0, 9)), 0, 0, 0, 0, 0);
        y.order(0, 1);
        Checks.window(y, "most 3");
        lines("home counts", y, 0, 0, 2, 2);
    }

    // ---- first those told by hand, as they were told; then one of each SORT by their numbers

    private static void order() {
        PennyQueue x = Made.of(s(0, 99, 0, 1), s(0, 99, 0, 1));
        x.order(0, 1);
        Checks.window(x, "come 1 t=7;come 0 t=7;come 1 t<60&t=7;come 5 t=7");
        x.come(1, 9);
        x.come(1, 7);
        x.come(0, 7);
        x.come(1, 0);
        checks.dues("sorts", Made.comers(x, 0, 0), 1, 1, 0, 0, 1, 1);
        checks.dues("minutes", Made.comers(x, 0, 1), 0, 7, 7, 7, 7, 9);
        // by the second come of a sort, where the first doesn't hold
        Checks.window(x, "come 0 t=99;come 0 t=5;come 0 t=98");
        checks.dues("some come", Made.comers(x, 0, 1), 0, 5, 7, 7, 9);
        // sorts come as soon as they are there
        Checks.window(x, "come 5 t=1;come 4 t=1");
        for (int sort = 2; sort < 6; sort++) {
            due("of the text nobody yet, " + sort, x.all(0, 0), sort < 5 ? 4 : 5);
            due("sort", x.sort(0, 99, 0, 1), sort);
        }
        checks.dues("4 and 5", Made.comers(x, 0, 0), 1, 4, 5, 1, 0, 1);
    }

    // ---- TESTS: l in the paying line, f in the free one, n ahead

    private static void tests() {
        // first, price 0: three of the dear sort in minute 0: one stands in the free line, two in the paying one
        String[] all = {"l=2", "l<3", "l>1", "f=1", "f<2", "f>0", "n=3", "n<4", "n>2"};
        String[] none = {"l=1", "l=3", "l<2", "l>2", "f=0", "f=2", "f<1", "f>1", "n=2", "n=4", "n<3", "n>3"};
        for (String test : all) {
            due(test, threeAnd(test + "&t=0"), 4);
            due("not " + test, threeAnd("!" + test + "&t=0"), 3);
        }
        for (String test : none) {
            due(test, threeAnd(test + "&t=0"), 3);
            due("not " + test, threeAnd("!" + test + "&t=0"), 4);
        }
        // in minute 1 one of the paying line is at the window, and stands no more
        due("l in minute 1", threeAnd("l=1&f=1&n=3&t=1"), 4);
        due("l in minute 9", threeAnd("l=1&f=1&n=3&t=9"), 4);
        due("l in minute 10", threeAnd("l=0&f=1&n=3&t=10"), 4);
        due("f in minute 18", threeAnd("l=0&f=1&n=3&t=18"), 4);
        due("f in minute 19", threeAnd("l=0&f=0&n=3&t=19"), 4);
        due("n when all are gone", threeAnd("l=0&f=0&n=3&t=59"), 4);
        // those who went home count in n, and stand nowhere
        PennyQueue x = Made.come(Made.of(s(9, 0, 0, 9), s(0, 99, 0, 1)), 0, 0, 0, 0);
        x.order(0, 1);
        Checks.window(x, "come 1 n=3&f=1&l=0&t=0");
        due("home", x.all(0, 0), 4);
        // & binds more than |, ! more than both
        due("t|f&f", threeAnd("t=0|t=1&t=2"), 4);
        due("f&t|t", threeAnd("t=9&t=1|t=0"), 4);
        due("(t|f)&f", threeAnd("(t=0|t=1)&t=2"), 3);
        due("!f&f", threeAnd("!t=0&t=0"), 3);
        due("!(f&f)", threeAnd("!(t=0&t=1)&t=1"), 4);
        due("!!", threeAnd("!!t=0"), 4);
        due("!!!!", threeAnd("!!!!t=0"), 4);
        due("!(!(t))", threeAnd("!(!(t=0))"), 4);
        due("!!!", threeAnd("!!!t=0&n<4"), 4);
        due("of three, the last", threeAnd("t=60|t=61|t=0"), 4);
        due("of three, the first", threeAnd("t=0|t=61|t=62"), 4);
        due("all of three", threeAnd("t=0&n=3&f=1"), 4);
        due("all but the last", threeAnd("t=0&n=3&f=2"), 3);
        due("all but the first", threeAnd("t=60&n=3&f=1"), 3);
    }

    /** How many come: three of a dear sort in minute 0, and one of the text's. */
    private static long threeAnd(String test) {
        PennyQueue x = Made.come(Made.of(s(1, 99, 0, 9)), 0, 0, 0, 0);
        x.order(1, 1);
        due("a window: " + test, Checks.window(x, "come 0 " + test), 0);
        return x.all(0, 0);
    }

    /** Each letter with each sign and each number there is. */
    private static void everyTest() {
        String letters = "lfn", signs = "<=>";
        int[] values = {2, 1, 3};
        for (int sign = 0; sign < 3; sign++) {
            for (int n = 0; n <= 99; n++) {
                for (int k = 0; k < 3; k++) {
                    boolean holds = sign == 0 ? values[k] < n : sign == 1 ? values[k] == n : values[k] > n;
                    due("test of " + letters.charAt(k), threeAnd("" + letters.charAt(k) + signs.charAt(sign) + n + "&t=0"), holds ? 4 : 3);
                }
                PennyQueue x = Made.of(s(0, 99, 0, 1));
                x.order(0, 1);
                Checks.window(x, "come 0 t" + signs.charAt(sign) + n + ";most 40");
                int from = sign == 0 ? 0 : sign == 1 ? n : n + 1, till = sign == 0 ? n : sign == 1 ? n + 1 : 60;
                int many = Math.max(0, Math.min(till, 60) - from);
                due("minutes of t" + signs.charAt(sign) + n, x.all(0, 0), Math.min(many, 40));
                due("the first", x.comer(0, 0, 1), many > 0 ? from : -1001);
            }
        }
    }

    /** Four TESTS that hold or don't, joined by each & and |, with each ! and some brackets. */
    private static void joined() {
        for (int holds = 0; holds < 16; holds++) {
            for (int ors = 0; ors < 8; ors++) {
                boolean[] term = new boolean[4];
                String[] text = new String[4];
                for (int k = 0; k < 4; k++) {
                    term[k] = (holds >> k & 1) == 1;
                    text[k] = term[k] ? "t=0" : "t<0";
                }
                String joined = text[0];
                String not = "!" + text[0];
                for (int k = 1; k < 4; k++) {
                    joined += ((ors >> k - 1 & 1) == 1 ? "|" : "&") + text[k];
                    not += ((ors >> k - 1 & 1) == 1 ? "|" : "&") + "!" + text[k];
                }
                boolean all = either(term, ors);
                due(joined, comesIn0(joined), all ? 1 : 0);
                due("!(" + joined + ")", comesIn0("!(" + joined + ")"), all ? 0 : 1);
                due("(" + joined + ")&t=0", comesIn0("(" + joined + ")&t=0"), all ? 1 : 0);
                due("t=0&(" + joined + ")", comesIn0("t=0&(" + joined + ")"), all ? 1 : 0);
                due("t<0|(" + joined + ")", comesIn0("t<0|(" + joined + ")"), all ? 1 : 0);
                boolean[] other = {!term[0], !term[1], !term[2], !term[3]};
                due(not, comesIn0(not), either(other, ors) ? 1 : 0);
            }
        }
        // as many as can wait for one another: in each of four brackets a | and a &
        due("deep", comesIn0("t<0|t=0&(t<0|t=0&(t<0|t=0&(t<0|t=0&(t<0|t=0&t=0))))"), 1);
        due("deep, not", comesIn0("t<0|t=0&(t<0|t=0&(t<0|t=0&(t<0|t=0&(t<0|t=0&t<0))))"), 0);
    }

    private static boolean either(boolean[] term, int ors) {
        boolean any = false, both = term[0];
        for (int k = 1; k < 4; k++) {
            if ((ors >> k - 1 & 1) == 1) {
                any |= both;
                both = term[k];
            } else {
                both &= term[k];
            }
        }
        return any | both;
    }

    private static long comesIn0(String test) {
        PennyQueue x = Made.of(s(0, 99, 0, 1));
        x.order(0, 1);
        due("a window: " + test, Checks.window(x, "come 0 " + test + ";most 1"), 0);
        return x.all(0, 0) == 1 && x.comer(0, 0, 1) == 0 ? 1 : 0;
    }

    private static void linesAsTheyAreThen() {
        String[] tests = {"f=0", "f=1", "n=0", "n=1"};
        long[][] come = {{0}, {0, 1}, {0}, {0, 1}};
        for (int k = 0; k < tests.length; k++) {
            PennyQueue x = Made.of(s(0, 99, 0, 1), s(0, 99, 0, 1));
            x.order(0, 1);
            Checks.window(x, "come 0 t=0;come 1 t=0&" + tests[k]);
            checks.dues("ahead of a second sort, " + tests[k], Made.comers(x, 0, 0), come[k]);
            // and behind one by hand
            PennyQueue y = Made.come(Made.of(s(0, 99, 0, 1), s(0, 99, 0, 1)), 0, 0);
            y.order(0, 1);
            Checks.window(y, "come 1 t=0&" + tests[k]);
            checks.dues("ahead of a sort, by hand, " + tests[k], Made.comers(y, 0, 0), come[k]);
        }
    }

    // ---- AHEAD

    private static void ahead() {
        for (int more = 0; more <= 2; more += 2) {
            int time = 5 + more;
            for (int minute = 1; minute <= time; minute++) {
                int needs = time - minute;
                for (int k = 0; k < 7; k++) {
                    PennyQueue x = Made.of(s(0, 99, 0, 5), s(1, needs, 0, 1), s(1, Math.max(needs - 1, 0), 0, 1));
                    Made.allKinds(x, 1);
                    Checks.window(x, "more " + more);
                    Made.come(x, 0, 0);
                    Made.come(x, minute, 2);
                    lines("needs more than " + (needs - 1), x, k, 0, needs == 0 ? 0 : 2);
                    x.clear();
                    Made.come(x, 0, 0);
                    Made.come(x, minute, 1);
                    lines("needs " + needs, x, k, 0, 0);
                    due("waits", x.comer(k, 1, 4), needs);
                }
            }
        }
    }

    /** By which kinds the paying line has less ahead: all but ORDER and FULL. */
    private static void aheadOfEachLine() {
        PennyQueue x = Made.allKinds(Made.of(s(0, 99, 0, 9), s(1, 0, 0, 3)), 9);
        Made.come(x, 0, 0, 1, 1);
        for (int k = 0; k < 7; k++) {
            if (k == 0 || k == 5) {
                lines("both lines, kind " + k, x, k, 0, 2, 2);
            } else {
                lines("the paying line alone, kind " + k, x, k, 0, 1, 2);
            }
        }
        // the free line's cost is of both lines: 9 and 3, so 12 is stayed for, and 11 isn't
        PennyQueue y = Made.allKinds(Made.of(s(0, 99, 0, 9), s(1, 0, 20, 3), s(1, 12, 19, 1), s(1, 11, 19, 1)), 9);
        Checks.window(y, "price 0");
        Made.come(y, 0, 0, 1, 2, 3);
        for (int k : new int[] {1, 2, 4, 6}) {
            // 2 pays 0 for 3 ahead; 3 pays 0 for 4
            lines("kind " + k, y, k, 0, 1, 1, 1);
        }
        // too dear for 2 and 3 to pay: they look at the free line, of both
        PennyQueue z = Made.allKinds(Made.of(s(0, 99, 0, 9), s(2, 99, 20, 3), s(1, 12, 0, 1), s(1, 11, 0, 1)), 9);
        Checks.window(z, "price 1");
        Made.come(z, 0, 0, 1, 3, 2);
        for (int k : new int[] {1, 2, 3, 6}) {
            lines("the free line, kind " + k, z, k, 0, 1, 2, 0);
        }
    }

    // ---- JOINS the paying line, if PRICE is no more than the PURSE

    private static void priceAndPurse() {
        for (int price : new int[] {1, 5, 20}) {
            PennyQueue x = Made.allKinds(Made.of(s(0, 99, 0, 9), s(9, 99, price, 1), s(9, 99, price - 1, 1)), 1);
            Checks.window(x, "price " + price);
            Made.come(x, 0, 0, 2, 1);
            for (int k : new int[] {1, 2, 3, 6}) {
                lines("price " + price + " kind " + k, x, k, 0, 0, 1);
                checks.dues("paid", Made.comers(x, k, 3), 0, 0, price);
            }
            lines("the poor pass", x, 4, 0, 1, 1);
            checks.dues("and pay nothing", Made.comers(x, 4, 3), 0, 0, price);
            lines("order", x, 0, 0, 0, 0);
            checks.dues("nothing is paid", Made.comers(x, 0, 3), 0, 0, 0);
        }
    }

    // ---- its COST less than that of the free one

    private static void costOfTheLines() {
        PennyQueue x = Made.come(Made.of(s(0, 99, 0, 9), s(1, 99, 20, 1)), 0, 0, 1);
        x.order(1, 1);
        long[] lines = {1, 0, 0};
        for (int price = 8; price <= 10; price++) {
            Checks.window(x, "price " + price);
            lines("9 for the free line, price " + price, x, 0, 0, lines[price - 8]);
            due("paid", x.comer(0, 1, 3), price == 8 ? 8 : 0);
        }
        Checks.window(x, "price 10;more 2");
        lines("11 for it with more", x, 0, 0, 1);
        Checks.window(x, "price 11;more 2");
        lines("the same", x, 0, 0, 0);
        // a minute that is worth nothing: the lines cost the same
        PennyQueue y = Made.allKinds(Made.come(Made.of(s(0, 99, 20, 9)), 0, 0, 0, 0), 9);
        for (int k = 0; k < 7; k++) {
            lines("worth nothing, kind " + k, y, k, 0, 0, 0);
        }
    }

    // ---- but goes HOME, if the COST of that line is more than SERVICE

    private static void costAndService() {
        long[] free = {2, 0, 0};
        for (int service = 8; service <= 10; service++) {
            PennyQueue x = Made.allKinds(Made.of(s(0, 99, 0, 9), s(1, service, 0, 1)), 9);
            Checks.window(x, "price 1");
            Made.come(x, 0, 0, 1);
            for (int k : new int[] {0, 1, 2, 3, 5, 6}) {
                lines("free, 9, service " + service + " kind " + k, x, k, 0, free[service - 8]);
            }
        }
        // the paying line is what is looked at, where it costs less: 4 and a price of 3; the free one costs 13
        long[] paying = {2, 1, 1};
        for (int service = 6; service <= 8; service++) {
            PennyQueue x = Made.allKinds(Made.of(s(0, 99, 0, 9), s(9, 99, 20, 4), s(1, service, 20, 1)), 9);
            Checks.window(x, "price 3");
            Made.come(x, 0, 0, 1, 2);
            for (int k : new int[] {1, 2, 4, 6}) {
                lines("paying, 7, service " + service + " kind " + k, x, k, 0, 1, paying[service - 6]);
                due("who goes home pays nothing", x.comer(k, 2, 3), service < 7 ? 0 : 3);
                due("and doesn't wait", x.comer(k, 2, 4), service < 7 ? -5 : 4);
                due("nor is served", x.comer(k, 2, 5), service < 7 ? -5 : 1);
            }
        }
    }

    // ---- LENGTH: v more for each one in the paying line (as one comes)

    private static void length() {
        for (int v : new int[] {1, 2, 9}) {
            PennyQueue x = Made.of(s(0, 99, 0, 9), s(5, 99, 2, 1), s(5, 99, Math.min(2 + v, 20), 1), s(5, 99, 1 + v, 1),
                s(5, 99, Math.min(2 + 2 * v, 20), 1), s(5, 99, Math.min(1 + 2 * v, 20), 1));
            x.order(3, v);
            Checks.window(x, "price 2");
            // 1: nobody there. 3: one, a penny too little. 2: one. 5: two, a penny too little. 4: two
            Made.come(x, 0, 0, 1, 3, 2, 5, 4);
            lines("v " + v, x, 0, 0, 1, 0, 1, 0, 1);
            checks.dues("paid, v " + v, Made.comers(x, 0, 3), 0, 2, 0, 2 + v, 0, 2 + 2 * v);
        }
        // above 20: there the purse ends
        PennyQueue y = Made.of(s(0, 99, 0, 9), s(5, 99, 20, 1));
        y.order(3, 9);
        Made.come(y, 0, 0, 1, 1, 1, 1);
        checks.dues("0, 9, 18 and no 27", Made.comers(y, 0, 3), 0, 0, 9, 18, 0);
        lines("no 27", y, 0, 0, 1, 1, 1, 0);
        Checks.window(y, "price 2");
        lines("2, 11, 20 and no 29", y, 0, 0, 1, 1, 1, 0);
        Checks.window(y, "price 3");
        lines("3, 12 and no 21", y, 0, 0, 1, 1, 0, 0);
        // who is at the window stands no more: in minute 1 the paying line has one left
        PennyQueue z = Made.of(s(0, 99, 0, 9), s(9, 99, 20, 4));
        z.order(3, 5);
        Made.come(z, 0, 0, 1, 1);
        Made.come(z, 1, 1);
        checks.dues("as one comes", Made.comers(z, 0, 3), 0, 0, 5, 5);
        // others ask no more for those who stand there
        PennyQueue w = Made.allKinds(Made.come(Made.of(s(0, 99, 0, 9), s(9, 99, 20, 1)), 0, 0, 1, 1), 9);
        Checks.window(w, "price 2");
        for (int k : new int[] {1, 2, 4, 6}) {
            checks.dues("kind " + k, Made.comers(w, k, 3), 0, 2, 2);
        }
    }

    // ---- FULL: goes HOME, too, if v or more stand in both lines together

    private static void full() {
        for (int v = 1; v <= 9; v++) {
            PennyQueue x = Made.of(s(0, 99, 0, 2));
            x.order(5, v);
            for (int k = 0; k < 10; k++) {
                x.come(0, 0);
            }
            x.come(0, 1);
            x.come(0, 1);
            long[] want = new long[12];
            for (int k = 0; k < 12; k++) {
                // in minute 1 one is at the window, so one more may stand
                want[k] = k < v || k == 10 ? 0 : 2;
            }
            lines("full " + v, x, 0, want);
        }
        PennyQueue y = Made.of(s(9, 8, 0, 1));
        y.order(5, 9);
        Made.come(y, 0, 0, 0);
        lines("and by the cost", y, 0, 0, 2);
        // the others are never full
        PennyQueue z = Made.allKinds(Made.come(Made.of(s(0, 99, 0, 2)), 0, 0, 0, 0, 0), 1);
        for (int k = 0; k < 7; k++) {
            if (k == 5) {
                lines("full", z, k, 0, 2, 2, 2);
            } else {
                lines("kind " + k, z, k, 0, 0, 0, 0);
            }
        }
    }

    // ---- POOR: for one whose PURSE is less than PRICE the paying line costs no PRICE

    private static void poor() {
        PennyQueue x = Made.of(s(0, 99, 0, 9), s(1, 99, 9, 1), s(1, 99, 8, 1), s(1, 99, 10, 1));
        x.order(4, 9);
        Checks.window(x, "price 9");
        // 1 and 3 have 9, which is no less than the free line's; 2 has less, and passes for nothing
        Made.come(x, 0, 0, 1);
        lines("purse 9", x, 0, 0, 0);
        x.clear();
        Made.come(x, 0, 0, 2);
        lines("purse 8", x, 0, 0, 1);
        due("pays nothing", x.comer(0, 1, 3), 0);
        x.clear();
        Made.come(x, 0, 0, 3);
        lines("purse 10", x, 0, 0, 0);
        // no price in the cost: service 0 is enough for no wait, and a minute's wait is too much
        PennyQueue y = Made.of(s(0, 99, 0, 9), s(1, 0, 0, 1));
        y.order(4, 9);
        Checks.window(y, "price 20");
        Made.come(y, 0, 0, 1, 1);
        lines("costs no price", y, 0, 0, 1, 2);
        // but not less than nothing: the lines cost the same
        PennyQueue z = Made.of(s(0, 99, 0, 9));
        z.order(4, 9);
        Checks.window(z, "price 20");
        Made.come(z, 0, 0, 0);
        lines("the same", z, 0, 0, 0);
        // a price of 0 is not more than a purse of 0
        PennyQueue w = Made.of(s(0, 99, 0, 9), s(1, 99, 0, 1));
        w.order(4, 9);
        Made.come(w, 0, 0, 1);
        lines("price 0", w, 0, 0, 1);
        due("paid 0", w.comer(0, 1, 3), 0);
    }

    // ---- TOLD: the ROW for the i-th one who comes (0 .. 9)

    private static void told() {
        for (int i = 0; i < 12; i++) {
            PennyQueue x = Made.of(s(0, 99, 20, 1));
            x.order(6, 1);
            Checks.window(x, "price 2");
            for (int k = 0; k < 12; k++) {
                x.come(0, 0);
            }
            for (int n = 0; n <= 2; n++) {
                due("row", x.row(0, i, n), i > 9 ? -1 : n == 0 ? -5 : n - 1);
                long[] want = new long[12], paid = new long[12];
                if (i <= 9) {
                    want[i] = n;
                    paid[i] = n == 1 ? 2 : 0;
                }
                lines("told " + n + " for " + i, x, 0, want);
                checks.dues("paid", Made.comers(x, 0, 3), paid);
            }
            due("nothing again", x.row(0, i, -1), i > 9 ? -1 : 2);
            lines("nothing", x, 0, new long[12]);
        }
        // those who go home are counted, too: the row is by who comes, not by who joins
        PennyQueue y = Made.of(s(0, 99, 20, 1));
        y.order(6, 1);
        y.row(0, 0, 2);
        y.row(0, 1, 2);
        y.row(0, 2, 1);
        Made.come(y, 0, 0, 0, 0, 0);
        lines("home, home, paying", y, 0, 2, 2, 1, 0);
    }

    private static void toldAsFirst() {
        // whatever it costs: 0 and 1 are stayed for, though a wait isn't worth it; 2 though nothing is waited for
        PennyQueue x = Made.of(s(9, 0, 5, 9));
        x.order(6, 1);
        x.order(1, 1);
        Checks.window(x, "price 5");
        x.row(0, 0, 2);
        x.row(0, 1, 0);
        x.row(0, 2, 0);
        x.row(0, 3, 1);
        x.row(0, 4, 1);
        Made.come(x, 0, 0, 0, 0, 0, 0, 0);
        lines("whatever it costs", x, 0, 2, 0, 0, 1, 1, 2);
        checks.dues("the price is as much as the purse", Made.comers(x, 0, 3), 0, 0, 0, 5, 5, 0);
        lines("first", x, 1, 0, 2, 2, 2, 2, 2);
        // a penny more: 1 is as first, which goes home; 0 and 2 stay what they are
        Checks.window(x, "price 6");
        lines("1 above the purse", x, 0, 2, 0, 0, 2, 2, 2);
        // as first: the free line, where it costs no more than the service
        PennyQueue y = Made.of(s(1, 9, 5, 9));
        y.order(6, 1);
        y.row(0, 0, 1);
        y.row(0, 1, 1);
        y.row(0, 2, 1);
        Checks.window(y, "price 6");
        Made.come(y, 0, 0, 0, 0);
        lines("as first", y, 0, 0, 0, 2);
        Checks.window(y, "price 5");
        lines("as told", y, 0, 1, 1, 1);
        // where nothing is told first may pay, too
        PennyQueue z = Made.of(s(9, 99, 5, 1));
        z.order(6, 1);
        Checks.window(z, "price 5");
        z.row(0, 0, 0);
        Made.come(z, 0, 0, 0, 0);
        lines("pays", z, 0, 0, 1, 1);
        z.row(0, 1, 0);
        lines("is told not to", z, 0, 0, 0, 1);
    }

    // ---- NEXT

    private static void next() {
        // two in the free line, two who pass them, one behind all
        PennyQueue x = Made.allKinds(Made.of(s(0, 99, 0, 2), s(9, 99, 20, 2)), 1);
        Checks.window(x, "price 1");
        Made.come(x, 0, 0, 0, 1, 1, 0);
        long[][] want = {{0, 1, 2, 3, 4}, {2, 3, 0, 1, 4}, {2, 0, 3, 1, 4}, {2, 3, 0, 1, 4}, {2, 0, 3, 1, 4}, {0}, {2, 3, 0, 1, 4}};
        for (int k = 0; k < 7; k++) {
            checks.dues("next, kind " + k, Made.served(x, k, 0), want[k]);
        }
        PennyQueue y = Made.of(s(0, 99, 0, 2), s(9, 99, 20, 2));
        y.order(5, 9);
        Made.come(y, 0, 0, 1, 0);
        checks.dues("next, full", Made.served(y, 0, 0), 0, 1, 2);
    }

    private static void share() {
        // two in the free line, ten in the paying one: after v of those, one of the free line
        for (int kind = 2; kind <= 4; kind += 2) {
            for (int v = 1; v <= 9; v++) {
                PennyQueue x = Made.of(s(0, 99, 0, 1), s(9, 99, 20, 1));
                x.order(kind, v);
                Made.come(x, 0, 0, 0, 1, 1, 1, 1, 1, 1, 1, 1, 1, 1);
                long[] want = new long[12];
                int paying = 2, free = 0, inRow = 0;
                for (int k = 0; k < 12; k++) {
                    boolean pays = paying < 12 && (inRow < v || free > 1);
                    want[k] = pays ? paying++ : free++;
                    inRow = pays ? inRow + 1 : 0;
                }
                checks.dues("share " + v + " kind " + kind, Made.served(x, 0, 0), want);
            }
        }
        // with v 3: three, one free, three, one free, and then all that are left
        PennyQueue y = Made.of(s(0, 99, 0, 1), s(9, 99, 20, 1));
        y.order(2, 3);
        Made.come(y, 0, 0, 0, 1, 1, 1, 1, 1, 1, 1, 1, 1, 1);
        checks.dues("share 3", Made.served(y, 0, 0), 2, 3, 4, 0, 5, 6, 7, 1, 8, 9, 10, 11);
        // taken while nobody was in the free line counts: the third of them is followed by one who only then came
        PennyQueue z = Made.of(s(9, 99, 20, 3), s(0, 99, 0, 1));
        z.order(2, 2);
        Made.come(z, 0, 0, 0, 0, 0, 0);
        Made.come(z, 4, 1);
        lines("one free, four paying", z, 0, 0, 1, 1, 1, 1, 0);
        checks.dues("since the beginning", Made.served(z, 0, 0), 1, 2, 0, 3, 4, 5);
        PennyQueue w = Made.of(s(9, 99, 20, 3), s(0, 99, 0, 1));
        w.order(6, 1);
        w.order(2, 2);
        Made.come(w, 0, 0, 0, 0, 0);
        Made.come(w, 11, 0, 0, 1);
        // by share 2: 1 and 2 pass 0, then 3 is taken with nobody in the free line, at 9
        checks.dues("lines", Made.comers(w, 1, 2), 0, 1, 1, 1, 0, 1, 0);
        // at 12 stand 4 free, 5 paying, 6 free: one of the paying line was taken since, so 5; then two were: 4
        checks.dues("since one of the free line was", Made.served(w, 1, 0), 1, 2, 0, 3, 5, 4, 6);
        // by share 1: 1, then 0, then 2 and 3 with nobody in the free line: these count, so at 12 it is 4's turn
        w.order(2, 1);
        checks.dues("while nobody is in it", Made.served(w, 2, 0), 1, 0, 2, 3, 4, 5, 6);
    }

    // ---- in each MINUTE behind those who come; MINUTES from that one on

    private static void behindThoseWhoCome() {
        // 0 is at the window till 1, 1 waits; in 2 one comes who passes it
        PennyQueue x = Made.of(s(0, 99, 0, 2), s(9, 99, 20, 2));
        x.order(1, 1);
        Made.come(x, 0, 0, 0);
        Made.come(x, 2, 1);
        lines("passes", x, 0, 0, 0, 1);
        checks.dues("who", Made.served(x, 0, 0), 0, 2, 1);
        checks.dues("when", Made.served(x, 0, 1), 0, 2, 4);
        // a minute later it is too late
        x.clear();
        Made.come(x, 0, 0, 0);
        Made.come(x, 3, 1);
        checks.dues("too late", Made.served(x, 0, 0), 0, 1, 2);
        // nobody stands idle: the window is taken in the very minute in which it is free
        PennyQueue y = Made.of(s(0, 99, 0, 1), s(0, 99, 0, 9));
        y.order(0, 1);
        Made.come(y, 3, 0, 1, 0);
        Made.come(y, 30, 0);
        checks.dues("when", Made.served(y, 0, 1), 3, 4, 13, 30);
        checks.dues("waits", Made.comers(y, 0, 4), 0, 1, 10, 0);
        Checks.window(y, "more 1");
        checks.dues("with more", Made.served(y, 0, 1), 3, 5, 15, 30);
        due("gone", y.all(0, 6), 32);
    }

    private static void tillAllAreServed() {
        PennyQueue x = Made.of(s(0, 99, 0, 9));
        x.order(0, 1);
        Checks.window(x, "come 0 t<60;more 20;most 40");
        checks.dues("forty of 29 minutes", Made.alls(x, 0), 40, 40, 40, 0, 0, 0, 40 * 29, 0);
        for (int i = 0; i < 40; i++) {
            due("when, " + i, x.served(0, i, 1), i * 29);
            due("waits, " + i, x.comer(0, i, 4), i * 28);
            due("how-manyeth, " + i, x.comer(0, i, 5), i);
        }
        due("comer 40", x.comer(0, 40, 0), -1001);
        due("served 40", x.served(0, 40, 0), -1);
        // lost: 9 pence a minute
        PennyQueue y = Made.of(s(9, 99, 0, 9), s(0, 99, 0, 9));
        y.order(6, 1);
        Checks.window(y, "come 1 t=0;come 0 t>0;more 20;most 11");
        for (int i = 0; i < 10; i++) {
            y.row(0, i, 0);
        }
        int lost = 0;
        for (int i = 1; i < 10; i++) {
            lost += 9 * 28 * i;
        }
        // the eleventh has no row, and goes home
        checks.dues("lost", Made.alls(y, 0), 11, 10, 10, 1, lost, 0, 290, 0);
        // lines of both sorts behind the hour: the paying ones first
        PennyQueue z = Made.of(s(0, 99, 0, 9), s(1, 99, 20, 9));
        z.order(1, 1);
        z.order(2, 1);
        Made.come(z, 59, 0, 0, 1, 1);
        checks.dues("first", Made.served(z, 0, 0), 2, 3, 0, 1);
        checks.dues("share", Made.served(z, 1, 0), 2, 0, 3, 1);
        checks.dues("when", Made.served(z, 1, 1), 59, 68, 77, 86);
        due("gone", z.all(1, 6), 95);
        // many more in the one line than in the other
        PennyQueue w = Made.of(s(0, 99, 0, 9), s(1, 99, 20, 9));
        w.order(1, 1);
        Made.come(w, 59, 0, 1, 1, 1, 1, 1);
        checks.dues("one free, five paying", Made.served(w, 0, 0), 1, 2, 3, 4, 5, 0);
        w.clear();
        Made.come(w, 59, 0, 0, 0, 0, 0, 1);
        checks.dues("five free, one paying", Made.served(w, 0, 0), 5, 0, 1, 2, 3, 4);
    }

    // ---- how many stand in a line at the end of a MINUTE (0 .. 99)

    private static void stand() {
        PennyQueue x = Made.of(s(0, 99, 0, 9), s(9, 0, 20, 9), s(9, 99, 20, 9));
        x.order(1, 1);
        Checks.window(x, "come 0 t<60;more 20;most 40");
        // begun at 0, 29, 58, 87: what came by then less these
        long[] minutes = {0, 1, 28, 29, 39, 40, 57, 58, 59, 60, 86, 87, 98, 99}, free = {0, 1, 28, 28, 38, 38, 38, 37, 37, 37, 37, 36, 36, 36};
        for (int k = 0; k < minutes.length; k++) {
            due("free at " + minutes[k], x.stand(0, 0, (int) minutes[k]), free[k]);
            due("paying at " + minutes[k], x.stand(0, 1, (int) minutes[k]), 0);
        }
        // who goes home stands nowhere; who pays stands in the paying line till coming to the window
        PennyQueue y = Made.of(s(0, 99, 0, 4), s(9, 0, 20, 9), s(9, 99, 20, 3));
        y.order(1, 1);
        Checks.window(y, "price 2");
        Made.come(y, 0, 0, 1, 0, 2);
        Made.come(y, 1, 2, 1);
        lines("lines", y, 0, 0, 2, 0, 1, 1, 2);
        long[] inFree = {2, 2, 2, 2, 2, 2, 1, 1, 1, 1, 0}, inPaying = {0, 1, 1, 0, 0, 0, 0, 0, 0, 0, 0};
        for (int m = 0; m <= 10; m++) {
            due("free at the end of " + m, y.stand(0, 0, m), inFree[m]);
            due("paying at the end of " + m, y.stand(0, 1, m), inPaying[m]);
        }
    }

    /** What was asked of another order, or of another day, is not seen in the next answer. */
    private static void eachHourByItself() {
        PennyQueue x = Made.of(s(0, 99, 20, 2));
        x.order(0, 1);
        x.order(6, 1);
        Made.come(x, 0, 0, 0, 0, 0);
        Checks.window(x, "price 4");
        x.row(1, 3, 2);
        x.row(1, 1, 1);
        for (int k = 0; k < 2; k++) {
            checks.dues("by order", Made.comers(x, 0, 5), 0, 1, 2, 3);
            checks.dues("told", Made.comers(x, 1, 5), 1, 0, 2, -5);
            checks.dues("waits by order", Made.comers(x, 0, 4), 0, 2, 4, 6);
            checks.dues("waits, told", Made.comers(x, 1, 4), 2, 0, 4, -5);
            checks.dues("paid by order", Made.comers(x, 0, 3), 0, 0, 0, 0);
            checks.dues("paid, told", Made.comers(x, 1, 3), 0, 4, 0, 0);
            due("by order, after told", x.all(0, 1), 4);
            due("comer 3 goes home", x.comer(1, 3, 5), -5);
            due("by order, again", x.all(0, 1), 4);
            due("served 3, told", x.served(1, 3, 0), -1);
            due("stands by order", x.stand(0, 0, 5), 1);
            due("stands, told", x.stand(1, 0, 3), 1);
            x.price(1, 0);
            x.early(1, 0, 0);
            x.slow(0, 9);
            x.mean(0, 0);
        }
        x.clear();
        due("nobody", x.all(0, 0), 0);
        due("nobody comes first", x.comer(0, 0, 5), -1001);
        due("nobody is served", x.served(0, 0, 0), -1);
    }
}
