/** The edges of what is asked of an hour: BACK, PRICES, WORSE, SLOW, EARLY, SELL, MEAN. */
public final class AskedEdgeTest {
    private static final Checks checks = new Checks("asked edges");

    public static void main(String[] args) {
        gone();
        pence();
        back();
        leastLost();
        mostPence();
        noPence();
        priceInPlaceOfItsOwn();
        worse();
        notWorse();
        worseBits();
        loss();
        slow();
        earlyMinutes();
        earlyHome();
        earlyMost();
        earlyBehindAll();
        earlyFull();
        earlyByTheWindow();
        sell();
        sellByEach();
        meanOfSome();
        meanOfTheText();
        meanByTheWindow();
        meanOdds();
        meanSix();
        checks.end();
    }

    private static void due(String what, long got, long want) {
        checks.due(what, got, want);
    }

    private static int[] s(int worth, int service, int purse, int time) {
        return Made.s(worth, service, purse, time);
    }

    // ---- the first MINUTE in which the last one is gone (0: nobody); BACK

    private static void gone() {
        PennyQueue x = Made.of(s(0, 99, 0, 1));
        x.order(6, 1);
        due("nobody", x.all(0, 6), 0);
        x.come(0, 0);
        due("one of a minute", x.all(0, 6), 1);
        x.row(0, 0, 2);
        due("home alone: nobody is served", x.all(0, 6), 0);
        x.come(0, 5);
        due("the second is", x.all(0, 6), 6);
        x.come(0, 9);
        x.row(0, 2, 2);
        due("home later", x.all(0, 6), 6);
    }

    /** PENCE: all that was paid, by whom ever, and how many ever went home ahead of them. */
    private static void pence() {
        PennyQueue x = Made.of(s(0, 99, 20, 1));
        x.order(6, 1);
        Checks.window(x, "price 7");
        Made.come(x, 0, 0, 0, 0, 0);
        long[] paid = {7, 7, 7, 7};
        for (int i = 0; i < 4; i++) {
            x.row(0, i, 1);
            due("the first " + i + " pay", x.all(0, 5), 7 * (i + 1));
        }
        checks.dues("each", Made.comers(x, 0, 3), paid);
        for (int i = 0; i < 3; i++) {
            x.row(0, i, 2);
            due("the first " + i + " go home", x.all(0, 5), 7 * (3 - i));
        }
        x.row(0, 3, 2);
        due("all go home", x.all(0, 5), 0);
        due("served", x.all(0, 1), 0);
        due("home", x.all(0, 3), 4);
    }

    private static void back() {
        // told so that nobody is served from the free line, though there are pence
        PennyQueue x = Made.of(s(0, 99, 20, 1));
        x.order(6, 1);
        Checks.window(x, "price 3");
        x.row(0, 0, 1);
        x.come(0, 0);
        checks.dues("pence, and none to give them to", Made.alls(x, 0), 1, 1, 0, 0, 0, 3, 1, 0);
        long[] back = {3, 1, 1, 0, 0};
        for (int free = 1; free <= 5; free++) {
            x.come(0, 0);
            due("3 by " + free, x.all(0, 7), back[free - 1]);
        }
        Checks.window(x, "price 6");
        due("6 by 5", x.all(0, 7), 1);
        Checks.window(x, "price 5");
        due("5 by 5", x.all(0, 7), 1);
        Checks.window(x, "price 4");
        due("4 by 5", x.all(0, 7), 0);
        // who goes home was not served from the free line
        x.row(0, 5, 2);
        due("4 by 4", x.all(0, 7), 1);
        Checks.window(x, "price 0");
        due("0 by 4", x.all(0, 7), 0);
    }

    // ---- PRICES: n of 0 .. 20

    private static void leastLost() {
        // a dear one waits for the window; a cheaper one passes if it may: only a price of 20 is above its purse
        for (int purse = 18; purse <= 20; purse++) {
            PennyQueue x = Made.of(s(0, 99, 0, 9), s(9, 99, 0, 7), s(3, 99, purse, 9));
            Made.come(x, 0, 0);
            Made.come(x, 1, 1, 2);
            x.order(1, 1);
            // passing: 8 * 3 and 17 * 9; else 8 * 9 and 15 * 3
            due("the least lost is at, purse " + purse, x.price(0, 0), purse < 20 ? purse + 1 : 0);
            due("the least lost", x.price(0, 3), purse < 20 ? 117 : 177);
        }
        // of several the least: all the same, or from one on
        PennyQueue y = Made.of(s(0, 99, 0, 9), s(9, 99, 20, 1));
        Made.come(y, 0, 0, 1);
        y.order(1, 1);
        due("0 of all", y.price(0, 0), 0);
        due("nothing is lost", y.price(0, 3), 0);
    }

    private static void mostPence() {
        for (int purse = 0; purse <= 20; purse++) {
            PennyQueue x = Made.of(s(0, 99, 0, 9), s(9, 99, purse, 1));
            Made.come(x, 0, 0, 1);
            x.order(1, 1);
            x.order(0, 1);
            due("purse " + purse, x.price(0, 1), purse);
            due("the most pence", x.price(0, 4), purse);
            due("none pays by order: the least n", x.price(1, 1), 0);
            due("none of it", x.price(1, 4), 0);
        }
        // two of 5 or one of 10: the same pence, so 5
        PennyQueue y = Made.of(s(0, 99, 0, 9), s(9, 99, 5, 1), s(9, 99, 10, 1));
        Made.come(y, 0, 0, 2, 1);
        y.order(1, 1);
        due("of several the least", y.price(0, 1), 5);
        due("the most pence", y.price(0, 4), 10);
        // two of 5 or one of 11
        PennyQueue z = Made.of(s(0, 99, 0, 9), s(9, 99, 5, 1), s(9, 99, 11, 1));
        Made.come(z, 0, 0, 2, 1);
        z.order(1, 1);
        due("a penny more", z.price(0, 1), 11);
        due("the most pence", z.price(0, 4), 11);
    }

    private static void noPence() {
        for (int purse = 0; purse <= 20; purse++) {
            PennyQueue x = Made.of(s(0, 99, 0, 9), s(9, 99, purse, 1));
            Made.come(x, 0, 0, 1);
            x.order(1, 1);
            // with 0 there are no pence either, but the least of 1 .. 20 is asked for
            due("no pence, purse " + purse, x.price(0, 2), purse < 20 ? purse + 1 : -5);
        }
        PennyQueue y = Made.come(Made.of(s(9, 99, 20, 1)), 0, 0, 0);
        y.order(0, 1);
        due("by order", y.price(0, 2), 1);
    }

    private static void priceInPlaceOfItsOwn() {
        PennyQueue x = Made.of(s(0, 99, 0, 9), s(9, 99, 7, 1));
        Made.come(x, 0, 0, 1, 1);
        x.order(1, 1);
        x.order(3, 2);
        long[][] want = {{0, 7, 8, 0, 14}, {0, 5, 8, 0, 12}};
        for (int price : new int[] {0, 3, 20}) {
            Checks.window(x, "price " + price + ";more 1");
            for (int order = 0; order < 2; order++) {
                // first: 1 waits 0, then 2 waits 2, 18 lost; or one of them alone, or none
                for (int what : new int[] {1, 2, 4}) {
                    due("order " + order + " what " + what, x.price(order, what), want[order][what]);
                }
            }
            due("own price", x.told(0), price);
        }
    }

    // ---- WORSE off: loss is more than by KIND 0 (v 1) with price 0

    private static void worse() {
        // by kind 0 the second waits 9 at 1; told home it loses its service
        long[] home = {0, 0, 2};
        for (int service = 8; service <= 10; service++) {
            PennyQueue x = Made.come(Made.of(s(0, 99, 0, 9), s(1, service, 0, 1)), 0, 0, 1);
            x.order(6, 1);
            x.row(0, 1, 2);
            due("loss, service " + service, x.loss(0, 1), service);
            due("home, service " + service, x.worse(0), home[service - 8]);
        }
        // told to pay it loses the price
        long[] paying = {0, 0, 2};
        for (int price = 8; price <= 10; price++) {
            PennyQueue x = Made.come(Made.of(s(0, 99, 0, 9), s(1, 99, 20, 1)), 0, 0, 1);
            x.order(6, 1);
            x.row(0, 1, 1);
            Checks.window(x, "price " + price);
            due("loss, price " + price, x.loss(0, 1), price);
            due("pays " + price, x.worse(0), paying[price - 8]);
        }
        // passed it loses its wait: 9 by kind 0, and one more by first
        PennyQueue y = Made.come(Made.of(s(0, 99, 0, 9), s(1, 99, 0, 1), s(9, 99, 20, 1)), 0, 0, 1, 2);
        y.order(1, 1);
        y.order(0, 9);
        y.order(5, 9);
        Checks.window(y, "price 1");
        due("loss", y.loss(0, 1), 10);
        due("a minute more", y.worse(0), 2);
        due("by kind 0 itself", y.worse(1), 0);
        due("by full of 9", y.worse(2), 0);
        // more is the window's, for kind 0, too
        PennyQueue z = Made.come(Made.of(s(0, 99, 0, 1), s(1, 5, 0, 1)), 0, 0, 1);
        z.order(6, 1);
        z.row(0, 1, 2);
        due("more than a minute", z.worse(0), 2);
        Checks.window(z, "more 3");
        due("more than 4", z.worse(0), 2);
        Checks.window(z, "more 4");
        due("not more than 5", z.worse(0), 0);
        Checks.window(z, "more 5");
        due("by kind 0 home, too", z.worse(0), 0);
    }

    /** Each by itself on a new object: as much as by kind 0 is not worse for the first sort either, nor for the last. */
    private static void notWorse() {
        for (int kind = 0; kind < 7; kind++) {
            PennyQueue x = Made.of(s(2, 99, 0, 3), s(2, 99, 0, 3), s(2, 99, 0, 3), s(2, 99, 0, 3), s(2, 99, 0, 3), s(2, 99, 0, 3));
            x.order(kind, 9);
            Checks.window(x, "price 1");
            Made.come(x, 0, 0, 1, 2, 3, 4, 5, 0);
            // whom the price is too dear, they wait as by kind 0; the poor pass, and only who is passed is worse off
            due("kind " + kind, x.worse(0), kind == 4 ? 1 : 0);
        }
    }

    private static void worseBits() {
        PennyQueue x = Made.of(s(0, 1, 0, 1), s(0, 1, 0, 1), s(0, 1, 0, 1), s(0, 1, 0, 1), s(0, 1, 0, 1), s(0, 1, 0, 1));
        x.order(6, 1);
        for (int k = 0; k < 6; k++) {
            x.come(k, 10 * k);
        }
        due("none", x.worse(0), 0);
        for (int k = 0; k < 6; k++) {
            x.row(0, k, 2);
            due("bit of " + k, x.worse(0), 1 << k);
            due("loss of " + k, x.loss(0, k), 1);
            x.row(0, k, -1);
        }
        for (int k = 0; k < 6; k++) {
            x.row(0, k, 2);
        }
        due("all", x.worse(0), 63);
    }

    private static void loss() {
        PennyQueue x = Made.of(s(2, 99, 20, 3), s(3, 40, 20, 2), s(9, 99, 20, 9));
        x.order(6, 1);
        Made.come(x, 0, 0, 1, 1, 1);
        Checks.window(x, "price 7");
        x.row(0, 0, 0);
        x.row(0, 1, 1);
        x.row(0, 2, 0);
        x.row(0, 3, 2);
        // served 1 at 0, 0 at 2, 2 at 5
        due("waits 2 at 2", x.loss(0, 0), 4);
        due("paid 7, waits 5 at 3, home at 40", x.loss(0, 1), 7 + 15 + 40);
        due("of a sort of which none came", x.loss(0, 2), 0);
        due("lost counts no one at home, and no pence", x.all(0, 4), 19);
    }

    // ---- SLOW n (1 .. 9)

    private static void slow() {
        // a third one comes in 3: it pays if somebody stands there yet whom it can pass
        PennyQueue x = Made.of(s(0, 99, 0, 1), s(9, 99, 20, 1));
        Made.come(x, 0, 0, 0);
        Made.come(x, 3, 1);
        x.order(1, 1);
        Checks.window(x, "price 2");
        // at 3 the two of 1 minute have gone; with 1 more the second is at the window, and nobody stands: no pence
        due("1 more", x.slow(0, 1), 0);
        // with 2 more the second stands yet when the third comes
        due("2 more", x.slow(0, 2), 2);
        for (int n = 3; n <= 9; n++) {
            due(n + " more", x.slow(0, n), 2);
        }
        due("0 more", x.slow(0, 0), -100002);
        due("10 more", x.slow(0, 10), -100002);
        Checks.window(x, "price 2;more 2");
        due("it pays anyway", x.slow(0, 1), 0);
        due("and with 9 more", x.slow(0, 9), 0);
        // fewer pence: with n more the wait in the paying line isn't worth the service
        PennyQueue y = Made.of(s(0, 99, 0, 1), s(1, 20, 9, 1));
        y.order(1, 1);
        Checks.window(y, "price 9;more 9");
        Made.come(y, 0, 0, 1, 1);
        // 1 pays 9; 2 would pay 9 and wait 10: 19, which is less than 20; with 1 more as much, with 2 more it is more
        due("two pay", y.all(0, 5), 18);
        due("as much as the service", y.slow(0, 1), 0);
        due("a minute more", y.slow(0, 2), -9);
        due("9 more", y.slow(0, 9), -9);
        // it goes beyond the 20 that a text can tell
        PennyQueue z = Made.of(s(0, 99, 0, 1), s(1, 30, 9, 1));
        z.order(1, 1);
        Checks.window(z, "price 9;more 20");
        Made.come(z, 0, 0, 1, 1);
        due("20 more is just worth it", z.all(0, 5), 18);
        due("21 isn't", z.slow(0, 1), -9);
        due("what is asked changes nothing", z.told(1), 20);
    }

    // ---- EARLY: the m (0 .. 59) at which that one WAITS least

    private static void earlyMinutes() {
        int[] times = {8, 9, 1};
        for (int k = 0; k < 3; k++) {
            // till 58, 59 or 60 the window is taken
            PennyQueue x = Made.of(s(0, 99, 0, 9), s(0, 99, 0, 5), s(0, 99, 0, times[k]), s(0, 99, 0, 1));
            Made.come(x, 0, 0, 0, 0, 0, 0, 1, 2);
            if (k == 2) {
                Made.come(x, 0, 0);
            }
            x.order(0, 1);
            due("least at, till " + x.all(0, 6), x.early(0, 3, 0), x.all(0, 6) > 59 ? 59 : x.all(0, 6));
            due("waits", x.early(0, 3, 1), Math.max(0, x.all(0, 6) - 59));
            checks.dues("still", new long[] {x.all(0, 0), x.count(3)}, 7 + k / 2, 7 + k / 2);
        }
        PennyQueue y = Made.of(s(0, 99, 0, 9));
        y.order(0, 1);
        due("of several the least", y.early(0, 0, 0), 0);
        y.come(0, 1);
        due("ahead of one in 1", y.early(0, 0, 0), 0);
        // of several: at 0 .. 9 it waits 9 and less, at 20 there is another one
        y.clear();
        Made.come(y, 0, 0);
        Made.come(y, 20, 0);
        due("between them", y.early(0, 0, 0), 9);
        due("no wait", y.early(0, 0, 1), 0);
        // it is 1 at the least: in each minute one of the text's is there for two
        PennyQueue z = Made.of(s(0, 99, 0, 2), s(0, 99, 0, 1));
        z.order(0, 1);
        Checks.window(z, "come 0 t<60;most 40");
        due("ahead of the first of the text", z.early(0, 1, 0), 0);
        Made.come(z, 0, 0);
        due("behind the one by hand", z.early(0, 1, 0), 0);
        due("which it waits for", z.early(0, 1, 1), 2);
    }

    private static void earlyHome() {
        // a service of 0: it goes home at each minute in which it would wait
        PennyQueue x = Made.of(s(0, 99, 0, 9), s(1, 0, 0, 1));
        x.order(0, 1);
        Made.come(x, 0, 0, 0, 0, 0, 0, 0);
        due("home till 53", x.early(0, 1, 0), 54);
        due("no wait", x.early(0, 1, 1), 0);
        Made.come(x, 0, 0);
        due("home at all of them", x.early(0, 1, 0), -5);
        due("no wait to tell", x.early(0, 1, 1), -5);
        // a service of 4: from 59 on it stays
        PennyQueue y = Made.of(s(0, 99, 0, 9), s(1, 4, 0, 1), s(1, 3, 0, 1));
        y.order(0, 1);
        Made.come(y, 0, 0, 0, 0, 0, 0, 0, 0);
        due("the last minute", y.early(0, 1, 0), 59);
        due("waits 4", y.early(0, 1, 1), 4);
        due("a penny less", y.early(0, 2, 0), -5);
        // told home, as the how-manyeth it would be
        PennyQueue z = Made.of(s(0, 99, 0, 1));
        z.order(6, 1);
        z.row(0, 0, 2);
        due("the first goes home", z.early(0, 0, 0), -5);
        due("so", z.early(0, 0, 1), -5);
        z.come(0, 7);
        due("the second doesn't", z.early(0, 0, 0), 7);
        due("no wait, for the first is home", z.early(0, 0, 1), 0);
    }

    private static void earlyMost() {
        PennyQueue x = Made.of(s(0, 99, 0, 9), s(0, 99, 0, 1));
        x.order(0, 1);
        Checks.window(x, "most 2");
        Made.come(x, 10, 0);
        Made.come(x, 20, 0);
        // later than both it is a third; with both ahead in 20, too
        due("as one of two", x.early(0, 1, 0), 0);
        Made.come(x, 0, 0);
        due("ahead of 10, behind the one in 0", x.early(0, 1, 0), 9);
        Made.come(x, 0, 0);
        due("two are ahead in any minute", x.early(0, 1, 0), -5);
        due("and no wait", x.early(0, 1, 1), -5);
        Checks.window(x, "most 3");
        due("a third till 10", x.early(0, 1, 0), 9);
        due("behind both of 9 minutes", x.early(0, 1, 1), 9);
        Checks.window(x, "most 0");
        due("nobody comes", x.early(0, 1, 0), -5);
        // one of the text of the same sort isn't that one
        PennyQueue y = Made.of(s(0, 99, 0, 9));
        y.order(0, 1);
        Checks.window(y, "come 0 t=0;most 1");
        due("it is ahead of the text's in 0", y.early(0, 0, 0), 0);
        y.come(0, 0);
        due("it is not who came by hand before", y.early(0, 0, 0), -5);
    }

    private static void earlyBehindAll() {
        // behind all of its minute that are told by hand, ahead of the text's
        PennyQueue x = Made.of(s(0, 99, 0, 9), s(0, 99, 0, 1));
        x.order(0, 1);
        Checks.window(x, "come 0 t<60;most 40");
        Made.come(x, 0, 1, 1);
        // in 0: two of a minute ahead; later ever more of 9 minutes
        due("least", x.early(0, 1, 0), 0);
        due("waits for the two", x.early(0, 1, 1), 2);
        Made.come(x, 0, 0);
        due("and for a third", x.early(0, 1, 1), 11);
        // one by hand in a later minute is behind it, though told ahead of it
        PennyQueue y = Made.of(s(0, 99, 0, 9));
        y.order(0, 1);
        Made.come(y, 5, 0);
        due("ahead of one in 5", y.early(0, 0, 0), 0);
        due("no wait", y.early(0, 0, 1), 0);
    }

    private static void earlyFull() {
        PennyQueue x = Made.of(s(0, 99, 0, 1));
        x.order(0, 1);
        for (int k = 1; k <= 11; k++) {
            x.come(0, 0);
        }
        due("eleven", x.early(0, 0, 0), 11);
        due("the twelfth waits", x.early(0, 0, 1), 0);
        due("who is not told by that", x.count(3), 11);
        x.come(0, 0);
        due("twelve", x.early(0, 0, 0), -4);
        due("twelve, what 1", x.early(0, 0, 1), -4);
        x.clear();
        due("none again", x.early(0, 0, 0), 0);
    }

    /** By the PRICE and the more of the window. */
    private static void earlyByTheWindow() {
        // two of 9 minutes in 0: it waits for both, but passes the second, where it pays
        PennyQueue x = Made.of(s(0, 99, 0, 9), s(9, 99, 5, 1));
        Made.come(x, 0, 0, 0, 0, 0, 0, 0, 0, 0);
        x.order(1, 1);
        Checks.window(x, "price 5");
        due("passes all in 0", x.early(0, 1, 0), 0);
        due("no wait", x.early(0, 1, 1), 0);
        Checks.window(x, "price 6");
        // too dear: then it waits till 72, and 99 is worth eleven minutes
        due("too dear", x.early(0, 1, 0), -5);
        Checks.window(x, "price 5;more 6");
        due("more", x.early(0, 1, 0), 0);
        PennyQueue y = Made.of(s(0, 99, 0, 9), s(0, 99, 0, 1));
        Made.come(y, 0, 0, 0);
        y.order(1, 1);
        due("till 18", y.early(0, 1, 0), 18);
        Checks.window(y, "price 3;more 6");
        due("till 30", y.early(0, 1, 0), 30);
        Checks.window(y, "price 3;more 20");
        due("till 58", y.early(0, 1, 0), 58);
    }

    // ---- SELL

    private static void sell() {
        // the later one's worth times the earlier one's time, against the other way about: 3 * 2 and w * t
        int[][] others = {{2, 3, 0}, {3, 2, 0}, {1, 6, 0}, {6, 1, 0}, {5, 1, 1}, {1, 5, 1}, {7, 1, 0}, {2, 2, 1}};
        for (int[] o : others) {
            // earlier: worth o[0], time 2; later: worth 3, time o[1]; 3 * 2 > o[0] * o[1]
            PennyQueue x = Made.come(Made.of(s(o[0], 99, 0, 2), s(3, 99, 0, o[1])), 0, 0, 1);
            x.order(0, 1);
            due("6 against " + o[0] * o[1], x.sell(0), o[2]);
        }
        PennyQueue y = Made.of(s(1, 99, 0, 1), s(9, 99, 0, 1));
        y.order(0, 1);
        due("nobody", y.sell(0), 0);
        y.come(0, 0);
        due("one", y.sell(0), 0);
        y.come(1, 0);
        due("two", y.sell(0), 1);
        y.come(1, 0);
        due("of one sort", y.sell(0), 1);
        y.come(0, 0);
        due("the other way about", y.sell(0), 1);
        y.come(1, 0);
        due("again", y.sell(0), 2);
        // also where the window stood idle between them
        y.clear();
        Made.come(y, 0, 0);
        Made.come(y, 50, 1);
        due("next, though later", y.sell(0), 1);
        // more is a part of both times: 2 * (1 + m) against 1 * (3 + m)
        PennyQueue z = Made.come(Made.of(s(1, 99, 0, 1), s(2, 99, 0, 3)), 0, 0, 1);
        z.order(0, 1);
        due("2 against 3", z.sell(0), 0);
        Checks.window(z, "more 1");
        due("4 against 4", z.sell(0), 0);
        Checks.window(z, "more 2");
        due("6 against 5", z.sell(0), 1);
        // by who is served, not by who comes: who went home is none of a pair
        PennyQueue w = Made.of(s(1, 99, 0, 1), s(9, 0, 0, 1), s(1, 99, 0, 1));
        w.order(0, 1);
        Made.come(w, 0, 0, 1, 2);
        due("one home between them", w.sell(0), 0);
    }

    private static void sellByEach() {
        PennyQueue x = Made.of(s(1, 99, 0, 1), s(9, 99, 0, 1));
        x.order(0, 1);
        x.order(6, 1);
        Made.come(x, 0, 0, 1, 0, 1);
        x.row(1, 1, 0);
        x.row(1, 2, 2);
        x.row(1, 3, 2);
        for (int k = 0; k < 2; k++) {
            due("by order 0 1 0 1", x.sell(0), 2);
            due("the last two home", x.sell(1), 1);
        }
        x.row(1, 1, 2);
        due("all but the first home", x.sell(1), 0);
        x.row(1, 0, 2);
        due("all home", x.sell(1), 0);
    }

    // ---- MEAN of LOST

    private static void mean(String what, PennyQueue x, long above, long below) {
        due(what + ", above", x.mean(0, 0), above);
        due(what + ", below", x.mean(0, 1), below);
    }

    private static void meanOfSome() {
        PennyQueue x = Made.of(s(1, 99, 0, 5), s(3, 99, 0, 2));
        x.order(0, 1);
        mean("nobody", x, 0, 1);
        x.odds(0, 3);
        x.odds(1, 7);
        x.come(0, 0);
        mean("one never waits", x, 0, 1);
        x.come(1, 0);
        // 15 with odds of 21 in 100
        mean("two", x, 63, 20);
        x.come(1, 0);
        // 0 1: 15, twice (3*7*3), 0 1 1: 15 + 21 (3*7*7), 1 1: 6 (7*7*7): 945 + 945 ... of 1000
        long above = 2 * 15 * 63 + 36 * 147 + 6 * 343, gcd = gcd(above, 1000);
        mean("three", x, above / gcd, 1000 / gcd);
        // who doesn't come leaves the place to the next, where most is told
        PennyQueue y = Made.of(s(0, 99, 0, 9), s(1, 99, 0, 1), s(2, 99, 0, 1));
        y.order(0, 1);
        Checks.window(y, "most 2");
        y.odds(1, 5);
        Made.come(y, 0, 0, 1, 2);
        // with 1: it waits 9; without: 2 waits 9 at 2
        mean("most", y, 27, 2);
        due("all come in the hour itself", y.all(0, 4), 9);
    }

    /** When nobody of those by hand comes, those of the text still lose. */
    private static void meanOfTheText() {
        PennyQueue x = Made.of(s(0, 99, 0, 5), s(3, 99, 0, 2), s(0, 99, 0, 1));
        x.order(0, 1);
        Checks.window(x, "come 0 t=0;come 1 t=0");
        mean("nobody by hand", x, 15, 1);
        x.odds(2, 0);
        for (int hands = 1; hands <= 6; hands++) {
            x.come(2, 0);
            mean("none of " + hands, x, 15, 1);
        }
        x.odds(2, 10);
        // six of a minute ahead: 18 more
        mean("six", x, 33, 1);
        x.odds(2, 5);
        mean("three of six", x, 24, 1);
    }

    private static void meanByTheWindow() {
        // a second one with odds of a half: the third passes it for 5, if it stands there
        PennyQueue x = Made.of(s(0, 99, 0, 9), s(2, 99, 0, 1), s(9, 99, 5, 3));
        Made.come(x, 0, 0, 1, 2);
        x.order(1, 1);
        x.odds(1, 5);
        // price 5: 2 pays and goes first; 1, if it comes, is third: 12 at 2, with odds of a half
        Checks.window(x, "price 5");
        mean("price 5", x, 12, 1);
        // price 6 is too dear: 1 waits 9 at 2; 2 waits 10 or 9 at 9
        Checks.window(x, "price 6");
        mean("price 6", x, 90 + 18 + 81, 2);
        // 4 more: times are 13, 5 and 7: 2 first, 1 waits 20 at 2
        Checks.window(x, "price 5;more 4");
        mean("more 4", x, 20, 1);
        due("the window's as it was", x.told(0) * 100 + x.told(1), 504);
    }

    private static long gcd(long a, long b) {
        return b == 0 ? a : gcd(b, a % b);
    }

    private static void meanOdds() {
        // one sure, one by odds, who waits 1: odds of ten in lowest terms
        long[][] want = {{0, 1}, {1, 10}, {1, 5}, {3, 10}, {2, 5}, {1, 2}, {3, 5}, {7, 10}, {4, 5}, {9, 10}, {1, 1}};
        for (int odds = 0; odds <= 10; odds++) {
            PennyQueue x = Made.come(Made.of(s(0, 99, 0, 1), s(1, 99, 0, 1)), 0, 0, 1);
            x.order(0, 1);
            x.odds(1, odds);
            mean("odds " + odds, x, want[odds][0], want[odds][1]);
            // those of the text always come
            PennyQueue y = Made.come(Made.of(s(0, 99, 0, 1), s(1, 99, 0, 1)), 0, 0);
            y.order(0, 1);
            y.odds(1, odds);
            Checks.window(y, "come 1 t=0");
            mean("of the text", y, 1, 1);
        }
    }

    private static void meanSix() {
        PennyQueue x = Made.of(s(0, 99, 0, 1), s(1, 99, 0, 1));
        x.order(0, 1);
        x.odds(0, 1);
        // one who waits for none but those who come with odds of 1 in ten: a minute for each of them
        for (int k = 0; k < 5; k++) {
            x.come(0, 0);
        }
        x.come(1, 0);
        mean("six: five tenths", x, 1, 2);
        x.odds(0, 3);
        mean("fifteen tenths", x, 3, 2);
        x.odds(1, 1);
        mean("a tenth of that", x, 3, 20);
        // nothing can be taken out: 1 and a million
        PennyQueue y = Made.of(s(1, 0, 0, 1));
        y.order(6, 1);
        y.row(0, 0, 0);
        for (int i = 1; i < 6; i++) {
            y.row(0, i, i == 5 ? 0 : 2);
        }
        y.odds(0, 1);
        Made.come(y, 0, 0, 0, 0, 0, 0, 0);
        // only if all six come the sixth stands behind the first, a minute
        mean("a millionth", y, 1, 1000000);
        y.odds(0, 9);
        mean("9 to the sixth", y, 531441, 1000000);
        y.odds(0, 10);
        mean("sure", y, 1, 1);
        y.come(0, 0);
        due("seven", y.mean(0, 0), Long.MIN_VALUE);
        due("seven, below", y.mean(0, 1), Long.MIN_VALUE);
        y.odds(0, 0);
        due("seven who never come", y.mean(0, 0), Long.MIN_VALUE);
        y.clear();
        mean("none", y, 0, 1);
    }
}
