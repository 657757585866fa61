/** Each promise by itself: ordinary inputs, the edges that the document names, wrong inputs; told by hand. */
public final class PromiseTest {
    private static final Checks checks = new Checks("promises");

    public static void main(String[] args) {
        constants();
        newObject();
        sort();
        of();
        odds();
        feed();
        window();
        faults();
        told();
        come();
        clear();
        order();
        row();
        comerAndServed();
        all();
        stand();
        kinds();
        text();
        price();
        worseAndLoss();
        slow();
        early();
        sell();
        mean();
        judge();
        imageAndUndo();
        actAndTrace();
        taken();
        count();
        tape();
        item();
        read();
        shift();
        checks.end();
    }

    private static void due(String what, long got, long want) {
        checks.due(what, got, want);
    }

    private static void constants() {
        due("NONE", PennyQueue.NONE, -1);
        due("BAD", PennyQueue.BAD, -2);
        due("STATE", PennyQueue.STATE, -3);
        due("FULL", PennyQueue.FULL, -4);
        due("NO", PennyQueue.NO, Long.MIN_VALUE);
    }

    /** Two sorts: 0 with a cheap minute, 1 with a dear one. */
    private static PennyQueue sorted() {
        PennyQueue x = new PennyQueue();
        x.sort(2, 20, 5, 3);
        x.sort(5, 30, 10, 2);
        return x;
    }

    /** Four told by hand: two of sort 0 and one of 1 in minute 0, one of 1 in minute 1. */
    private static PennyQueue four() {
        PennyQueue x = sorted();
        x.come(0, 0);
        x.come(0, 0);
        x.come(1, 0);
        x.come(1, 1);
        return x;
    }

    // ---- promise 1

    private static void newObject() {
        PennyQueue x = new PennyQueue();
        for (int what = 0; what < 6; what++) {
            due("new count " + what, x.count(what), 0);
        }
        due("new of", x.of(0, 0), -1);
        due("new price", x.told(0), 0);
        due("new more", x.told(1), 0);
        due("new most", x.told(2), 30);
        due("new undo", x.undo(), -3);
        due("new trace", x.trace(0), -1);
        due("new read", x.read(0, 0), PennyQueue.NO);
        due("new order", x.order(1, 1), 0);
        due("nobody comes", x.all(0, 0), 0);
    }

    // ---- promises 2 to 4

    private static void sort() {
        PennyQueue x = new PennyQueue();
        int[][] bad = {{-1, 0, 0, 1}, {10, 0, 0, 1}, {0, -1, 0, 1}, {0, 100, 0, 1},
            {0, 0, -1, 1}, {0, 0, 21, 1}, {0, 0, 0, 0}, {0, 0, 0, 10}, {Integer.MIN_VALUE, 0, 0, 1}};
        for (int[] b : bad) {
            due("bad sort", x.sort(b[0], b[1], b[2], b[3]), -2);
        }
        due("no sort yet", x.count(0), 0);
        due("least", x.sort(0, 0, 0, 1), 0);
        due("most", x.sort(9, 99, 20, 9), 1);
        for (int k = 2; k < 6; k++) {
            due("sort " + k, x.sort(1, 1, 1, 1), k);
        }
        due("bad ahead of full", x.sort(1, 1, 1, 0), -2);
        due("seventh", x.sort(1, 1, 1, 1), -4);
        due("six", x.count(0), 6);
    }

    private static void of() {
        PennyQueue x = new PennyQueue();
        x.sort(3, 60, 5, 2);
        x.sort(9, 99, 20, 4);
        long[] want0 = {3, 60, 5, 2, 10}, want1 = {9, 99, 20, 4, 10};
        for (int what = 0; what < 5; what++) {
            due("of 0", x.of(0, what), want0[what]);
            due("of 1", x.of(1, what), want1[what]);
        }
        due("of 2", x.of(2, 0), -1);
        due("of -1", x.of(-1, 0), -1);
        due("of what 5", x.of(0, 5), -1);
        due("of what -1", x.of(0, -1), -1);
    }

    private static void odds() {
        PennyQueue x = sorted();
        due("first odds", x.odds(0, 3), 10);
        due("odds then", x.odds(0, 0), 3);
        due("odds 10", x.odds(0, 10), 0);
        due("other odds", x.of(1, 4), 10);
        due("odds 11", x.odds(0, 11), -2);
        due("odds -1", x.odds(0, -1), -2);
        due("none ahead of bad", x.odds(2, 11), -1);
        due("sort -1", x.odds(-1, 1), -1);
        due("odds stay", x.of(0, 4), 10);
    }

    // ---- promises 5 to 7

    private static void feed() {
        PennyQueue x = new PennyQueue();
        due("none", x.feed(99, 0), 0);
        due("four", x.feed(0x70726963, 4), 4);
        due("the lowest three", x.feed(0x7f652037, 3), 7);
        due("five", x.feed(0, 5), -2);
        due("below", x.feed(0, -1), -2);
        due("text stays", x.count(4), 7);
        due("price 7", x.window(), 0);
        due("read as price 7", x.told(0), 7);
        for (int k = 0; k < 24; k++) {
            x.feed(0, 4);
        }
        due("99", x.feed(0, 3), 99);
        due("beyond 100", x.feed(0, 2), -4);
        due("nothing of it came", x.count(4), 99);
        due("100", x.feed(0, 1), 100);
        due("101", x.feed(0, 1), -4);
        due("no byte is always room", x.feed(0, 0), 100);
        due("bad ahead of full", x.feed(0, 5), -2);
        due("a byte below 0 is no clause", x.window(), -10);
    }

    private static void window() {
        PennyQueue x = new PennyQueue();
        for (int k = 0; k < 6; k++) {
            due("window " + k, Checks.window(x, "price " + k), k);
            due("it holds", x.told(0), k);
            due("empty then", x.count(4), 0);
        }
        due("seventh", Checks.window(x, "price 9"), -4);
        due("the text stays", x.count(4), 7);
        due("still 5", x.told(0), 5);
        due("full ahead of a fault", Checks.window(x, "!"), -4);
        due("six", x.count(1), 6);
        PennyQueue y = new PennyQueue();
        Checks.window(y, "price 4");
        due("fault", Checks.window(y, "price x"), -16);
        due("that which held holds", y.told(0), 4);
        due("a faulty text goes, too", y.count(4), 0);
        due("no window of it", y.count(1), 1);
        due("next number", Checks.window(y, "more 3"), 1);
        due("nothing of the one before", y.told(0), 0);
        Checks.window(y, "come 0 t<60;price 7;more 7;most 7;x");
        due("behind a fault", Checks.window(y, "come 5 t=1"), 2);
        due("no price of the faulty text", y.told(0), 0);
        due("no more of the faulty text", y.told(1), 0);
        due("no most of the faulty text", y.told(2), 30);
        y.sort(1, 1, 1, 1);
        y.order(0, 1);
        due("no come of the faulty text", y.all(0, 0), 0);
    }

    private static void faults() {
        fault("", 0);
        fault("x", 0);
        fault("c", 1);
        fault("came 1 t=1", 1);
        fault("come", 4);
        fault("come ", 5);
        fault("come 6 t=1", 5);
        fault("come  1 t=1", 5);
        fault("come 1", 6);
        fault("come 1t=1", 6);
        fault("come 10 t=1", 6);
        fault("come 1 ", 7);
        fault("come 1  t=1", 7);
        fault("come 1 s=1", 7);
        fault("come 1 t", 8);
        fault("come 1 t!1", 8);
        fault("come 1 t=", 9);
        fault("come 1 t=x", 9);
        fault("come 1 t=123", 11);
        fault("come 1 t=1 ", 10);
        fault("come 1 t=1&", 11);
        fault("come 1 t=1|", 11);
        fault("come 1 t=1|;", 11);
        fault("come 1 t=1)", 10);
        fault("come 1 (t=1", 11);
        fault("come 1 (t=1;", 11);
        fault("come 1 ()", 8);
        fault("come 1 !!!!t=1", -1);
        fault("come 1 !!!!!t=1", 11);
        fault("come 1 ((((t=1))))", -1);
        fault("come 1 (((((t=1)))))", 11);
        fault("come 1 !(!(t=1))", -1);
        fault("come 1 !(!(!t=1))", 11);
        fault("come 1 !(!((t=1)))", 11);
        fault("come 1 !!!!t=1&!!!!t=2|((((t=3))))", -1);
        fault("price", 5);
        fault("price 1 ", 7);
        fault("price 100", 8);
        fault("price a", 6);
        fault("prise 1", 3);
        fault("mo", 2);
        fault("mode 1", 2);
        fault("mort 1", 3);
        fault("mosr 1", 3);
        fault("most 1;", 7);
        fault("most 1;;", 7);
        fault("most 1; more 1", 7);
        fault(";most 1", 0);
        fault("Come 1 t=1", 0);
        fault("more 1;more 2;more 3;more 4;more 5;more 6;more 7;more 8", -1);
        fault("more 1;more 2;more 3;more 4;more 5;more 6;more 7;more 8;more 9", 55);
        fault("come 0 l<1&f=02|n>99;price 07;more 0;most 40", -1);
    }

    private static void fault(String text, int place) {
        due("window of '" + text + "'", Checks.window(new PennyQueue(), text), place < 0 ? 0 : -10 - place);
    }

    private static void told() {
        PennyQueue x = new PennyQueue();
        Checks.window(x, "price 20;more 20;most 40");
        due("price 20", x.told(0), 20);
        due("more 20", x.told(1), 20);
        due("most 40", x.told(2), 40);
        Checks.window(x, "price 21;more 21;most 41");
        due("price 20 at most", x.told(0), 20);
        due("more 20 at most", x.told(1), 20);
        due("most 40 at most", x.told(2), 40);
        Checks.window(x, "price 9;price 4;more 5;more 06;most 3;most 0");
        due("the last price", x.told(0), 4);
        due("the last more", x.told(1), 6);
        due("the last most", x.told(2), 0);
        Checks.window(x, "come 0 t=1");
        due("price without", x.told(0), 0);
        due("more without", x.told(1), 0);
        due("most without", x.told(2), 30);
        due("what 3", x.told(3), -1);
        due("what -1", x.told(-1), -1);
    }

    // ---- promises 8, 9

    private static void come() {
        PennyQueue x = sorted();
        due("sort 2", x.come(2, 0), -1);
        due("sort -1", x.come(-1, 0), -1);
        due("minute 60", x.come(0, 60), -1);
        due("minute -1", x.come(0, -1), -1);
        for (int k = 1; k <= 12; k++) {
            due("told " + k, x.come(k % 2, k == 12 ? 59 : 0), k);
        }
        due("thirteenth", x.come(0, 0), -4);
        due("none ahead of full", x.come(0, 60), -1);
        due("twelve", x.count(3), 12);
        x.order(0, 1);
        due("minute 59 counts", x.comer(0, 11, 1), 59);
    }

    private static void clear() {
        PennyQueue x = four();
        x.order(0, 1);
        due("four", x.clear(), 4);
        due("none then", x.clear(), 0);
        due("nobody comes", x.all(0, 0), 0);
        due("one again", x.come(1, 7), 1);
        due("it is the new one", x.comer(0, 0, 0), 1);
    }

    // ---- promises 10, 11

    private static void order() {
        PennyQueue x = new PennyQueue();
        due("kind 7", x.order(7, 1), -1);
        due("kind -1", x.order(-1, 1), -1);
        due("v 0", x.order(0, 0), -2);
        due("v 10", x.order(0, 10), -2);
        due("none ahead of bad", x.order(7, 0), -1);
        for (int k = 0; k < 10; k++) {
            due("order " + k, x.order(k % 7, k % 9 + 1), k);
        }
        due("eleventh", x.order(0, 1), -4);
        due("bad ahead of full", x.order(0, 0), -2);
        due("ten", x.count(2), 10);
    }

    private static void row() {
        PennyQueue x = new PennyQueue();
        x.order(1, 1);
        x.order(6, 1);
        x.order(6, 1);
        due("nothing at first", x.row(1, 0, 2), -5);
        due("2", x.row(1, 0, 0), 2);
        due("0", x.row(1, 0, 1), 0);
        due("1", x.row(1, 0, -1), 1);
        due("nothing again", x.row(1, 0, 2), -5);
        due("the last", x.row(1, 9, 1), -5);
        due("of another", x.row(2, 0, 0), -5);
        due("place 10", x.row(1, 10, 0), -1);
        due("place -1", x.row(1, -1, 0), -1);
        due("order 3", x.row(3, 0, 0), -1);
        due("order -1", x.row(-1, 0, 0), -1);
        due("3", x.row(1, 0, 3), -2);
        due("-2", x.row(1, 0, -2), -2);
        due("first has none", x.row(0, 0, 0), -3);
        due("bad ahead of state", x.row(0, 0, 3), -2);
        due("none ahead of state", x.row(0, 10, 0), -1);
        due("2 stayed", x.row(1, 0, 2), 2);
    }

    // ---- promises 12 to 15: the hour

    private static void comerAndServed() {
        PennyQueue x = four();
        Checks.window(x, "price 1");
        x.order(0, 1);
        x.order(1, 1);
        checks.dues("sorts", Made.comers(x, 0, 0), 0, 0, 1, 1);
        checks.dues("minutes", Made.comers(x, 0, 1), 0, 0, 0, 1);
        checks.dues("all in the free line, or home", Made.comers(x, 0, 2), 0, 0, 0, 2);
        checks.dues("nothing is paid", Made.comers(x, 0, 3), 0, 0, 0, 0);
        checks.dues("waits", Made.comers(x, 0, 4), 0, 3, 6, -5);
        checks.dues("how-manyeth", Made.comers(x, 0, 5), 0, 1, 2, -5);
        checks.dues("who", Made.served(x, 0, 0), 0, 1, 2);
        checks.dues("when", Made.served(x, 0, 1), 0, 3, 6);
        checks.dues("first: lines", Made.comers(x, 1, 2), 0, 1, 1, 1);
        checks.dues("first: paid", Made.comers(x, 1, 3), 0, 1, 1, 1);
        checks.dues("first: waits", Made.comers(x, 1, 4), 7, 0, 3, 4);
        checks.dues("first: how-manyeth", Made.comers(x, 1, 5), 3, 0, 1, 2);
        checks.dues("first: who", Made.served(x, 1, 0), 1, 2, 3, 0);
        checks.dues("first: when", Made.served(x, 1, 1), 0, 3, 5, 7);
        due("each call goes through its own order's hour", x.served(0, 1, 0), 1);
        due("comer of the other", x.comer(1, 1, 2), 1);
        due("served of the other", x.served(0, 1, 1), 3);
        due("comer, order 2", x.comer(2, 0, 0), -1001);
        due("comer, order -1", x.comer(-1, 0, 0), -1001);
        due("comer 4", x.comer(0, 4, 0), -1001);
        due("comer -1", x.comer(0, -1, 0), -1001);
        due("comer, what 6", x.comer(0, 0, 6), -1001);
        due("comer, what -1", x.comer(0, 0, -1), -1001);
        due("served, order 2", x.served(2, 0, 0), -1);
        due("served 3", x.served(0, 3, 0), -1);
        due("served -1", x.served(0, -1, 0), -1);
        due("served, what 2", x.served(0, 0, 2), -1);
        due("served, what -1", x.served(0, 0, -1), -1);
    }

    private static void all() {
        PennyQueue x = four();
        Checks.window(x, "price 1");
        x.order(0, 1);
        x.order(1, 1);
        checks.dues("order", Made.alls(x, 0), 4, 3, 3, 1, 36, 0, 8, 0);
        checks.dues("first", Made.alls(x, 1), 4, 4, 1, 0, 49, 3, 10, 3);
        Checks.window(x, "price 1;more 2");
        // 1 waits 5 of 5 (10), 2 would cost 50: home; 3 would cost 5 * 9: home
        checks.dues("more", Made.alls(x, 0), 4, 2, 2, 2, 10, 0, 10, 0);
        Checks.window(x, "most 2");
        checks.dues("most", Made.alls(x, 0), 2, 2, 2, 0, 6, 0, 6, 0);
        Checks.window(x, "most 0");
        checks.dues("nobody", Made.alls(x, 0), 0, 0, 0, 0, 0, 0, 0, 0);
        due("what 8", x.all(0, 8), -1);
        due("what -1", x.all(0, -1), -1);
        due("order 2", x.all(2, 0), -1);
        due("order -1", x.all(-1, 0), -1);
        // one in minute 59: gone in 59 + 3
        x.clear();
        Checks.window(x, "price 0");
        x.come(0, 59);
        checks.dues("late", Made.alls(x, 0), 1, 1, 1, 0, 0, 0, 62, 0);
        // back is cut: 3 pence by two from the free line
        PennyQueue y = new PennyQueue();
        y.sort(0, 99, 0, 1);
        y.sort(9, 99, 20, 1);
        for (int sort : new int[] {0, 0, 1, 1, 1}) {
            y.come(sort, 0);
        }
        Checks.window(y, "price 1");
        y.order(1, 1);
        checks.dues("back", Made.alls(y, 0), 5, 5, 2, 0, 27, 3, 5, 1);
    }

    private static void stand() {
        PennyQueue x = four();
        Checks.window(x, "price 1");
        x.order(1, 1);
        long[] free = {1, 1, 1, 1, 1, 1, 1, 0}, paying = {1, 2, 2, 1, 1, 0, 0, 0};
        for (int m = 0; m < 8; m++) {
            due("free at " + m, x.stand(0, 0, m), free[m]);
            due("paying at " + m, x.stand(0, 1, m), paying[m]);
        }
        due("at 99", x.stand(0, 0, 99), 0);
        due("at 100", x.stand(0, 0, 100), -2);
        due("at -1", x.stand(0, 0, -1), -2);
        due("line 2", x.stand(0, 2, 0), -1);
        due("line -1", x.stand(0, -1, 0), -1);
        due("order 1", x.stand(1, 0, 0), -1);
        due("none ahead of bad", x.stand(1, 0, 100), -1);
        // twelve of nine minutes in minute 59: the one at the window doesn't stand in the line
        PennyQueue y = new PennyQueue();
        y.sort(0, 0, 0, 9);
        for (int k = 0; k < 12; k++) {
            y.come(0, 59);
        }
        y.order(0, 1);
        due("behind the last minute", y.stand(0, 0, 59), 11);
        due("a minute ahead of the second", y.stand(0, 0, 67), 11);
        due("the second is at the window", y.stand(0, 0, 68), 10);
        due("at 99, the fifth is", y.stand(0, 0, 99), 7);
        due("all are served", y.all(0, 1), 12);
        due("gone", y.all(0, 6), 59 + 12 * 9);
    }

    /** What the KINDS do otherwise. */
    private static void kinds() {
        share();
        length();
        poor();
        full();
        toldRow();
        noPaying();
    }

    private static void share() {
        // one of a worthless sort in the free line, then four who pay 1 each to pass it
        PennyQueue x = new PennyQueue();
        x.sort(0, 99, 0, 1);
        x.sort(9, 99, 20, 1);
        x.come(0, 0);
        x.come(0, 0);
        for (int k = 0; k < 4; k++) {
            x.come(1, 0);
        }
        Checks.window(x, "price 1");
        x.order(1, 2);
        x.order(2, 2);
        x.order(2, 1);
        x.order(2, 9);
        checks.dues("lines", Made.comers(x, 1, 2), 0, 0, 1, 1, 1, 1);
        checks.dues("first", Made.served(x, 0, 0), 2, 3, 4, 5, 0, 1);
        checks.dues("share 2", Made.served(x, 1, 0), 2, 3, 0, 4, 5, 1);
        checks.dues("share 1", Made.served(x, 2, 0), 2, 0, 3, 1, 4, 5);
        checks.dues("share 9", Made.served(x, 3, 0), 2, 3, 4, 5, 0, 1);
        // taken from the paying line while nobody was in the free one counts, too
        PennyQueue y = new PennyQueue();
        y.sort(0, 99, 0, 1);
        y.sort(9, 99, 20, 5);
        y.come(1, 0);
        y.come(1, 0);
        y.come(1, 0);
        y.come(0, 1);
        y.order(2, 2);
        Checks.window(y, "price 0");
        checks.dues("lines", Made.comers(y, 0, 2), 0, 1, 1, 0);
        checks.dues("share", Made.served(y, 0, 0), 1, 2, 0, 3);
    }

    private static void length() {
        PennyQueue x = new PennyQueue();
        x.sort(5, 99, 10, 2);
        for (int k = 0; k < 5; k++) {
            x.come(0, 0);
        }
        Checks.window(x, "price 1");
        x.order(3, 4);
        // 0: free 0. 1: 1 < 10. 2: price 5, 10 + 5 < 20. 3: 9, 20 + 9 < 30. 4: price 13 is above the purse
        checks.dues("lines", Made.comers(x, 0, 2), 0, 1, 1, 1, 0);
        checks.dues("paid", Made.comers(x, 0, 3), 0, 1, 5, 9, 0);
        due("pence", x.all(0, 5), 15);
    }

    private static void poor() {
        PennyQueue x = new PennyQueue();
        x.sort(5, 99, 2, 2);
        x.sort(5, 99, 3, 2);
        x.come(0, 0);
        x.come(0, 0);
        x.come(1, 0);
        x.come(0, 0);
        Checks.window(x, "price 3");
        x.order(2, 9);
        x.order(4, 9);
        checks.dues("share: the poor don't pay", Made.comers(x, 0, 2), 0, 0, 1, 0);
        checks.dues("poor: nor here, but they pass", Made.comers(x, 1, 2), 0, 1, 1, 1);
        checks.dues("paid", Made.comers(x, 1, 3), 0, 0, 3, 0);
        // without price the cost must still be less, not the same
        PennyQueue y = new PennyQueue();
        y.sort(0, 99, 2, 2);
        y.come(0, 0);
        y.come(0, 0);
        Checks.window(y, "price 3");
        y.order(4, 9);
        checks.dues("worthless", Made.comers(y, 0, 2), 0, 0);
    }

    private static void full() {
        PennyQueue x = new PennyQueue();
        x.sort(0, 99, 0, 9);
        for (int k = 0; k < 5; k++) {
            x.come(0, k);
        }
        x.order(5, 2);
        x.order(5, 1);
        // the one at the window doesn't stand
        checks.dues("full 2", Made.comers(x, 0, 2), 0, 0, 0, 2, 2);
        checks.dues("full 1", Made.comers(x, 1, 2), 0, 0, 2, 2, 2);
        PennyQueue y = four();
        y.order(5, 9);
        checks.dues("the cost sends home, too", Made.comers(y, 0, 2), 0, 0, 0, 2);
    }

    private static void toldRow() {
        PennyQueue x = new PennyQueue();
        x.sort(9, 10, 4, 5);
        for (int k = 0; k < 12; k++) {
            x.come(0, 0);
        }
        Checks.window(x, "price 4");
        x.order(6, 1);
        x.row(0, 0, 2);
        x.row(0, 1, 1);
        x.row(0, 2, 0);
        x.row(0, 9, 0);
        // 0 is told home, 1 pays though the cost is not less, 2 stays though it costs 45; 3 .. 8 as first: home
        checks.dues("told", Made.comers(x, 0, 2), 2, 1, 0, 2, 2, 2, 2, 2, 2, 0, 2, 2);
        checks.dues("paid", Made.comers(x, 0, 3), 0, 4, 0, 0, 0, 0, 0, 0, 0, 0, 0, 0);
        Checks.window(x, "price 5");
        // 1 with a price above the purse: as first, who is the first in the lines and goes to the free one
        checks.dues("too dear", Made.comers(x, 0, 2), 2, 0, 0, 2, 2, 2, 2, 2, 2, 0, 2, 2);
        PennyQueue y = four();
        Checks.window(y, "price 1");
        y.order(6, 1);
        checks.dues("a row of nothing is as first", Made.comers(y, 0, 2), 0, 1, 1, 1);
    }

    private static void noPaying() {
        PennyQueue x = four();
        x.order(0, 1);
        x.order(5, 9);
        x.order(1, 1);
        due("by order nobody pays", x.all(0, 2), 3);
        due("nor by full", x.all(1, 2), 3);
        due("price 0 is paid by none", x.all(2, 5), 0);
        checks.dues("but it makes a paying line", Made.comers(x, 2, 2), 0, 1, 1, 1);
        // cost as much as service: stays
        PennyQueue y = new PennyQueue();
        y.sort(4, 12, 0, 3);
        y.come(0, 0);
        y.come(0, 0);
        y.come(0, 0);
        y.order(0, 1);
        checks.dues("no more than service", Made.comers(y, 0, 2), 0, 0, 2);
        // price as much as the purse: affords it; a cost the same as the free one's: doesn't
        PennyQueue z = new PennyQueue();
        z.sort(2, 99, 6, 3);
        z.sort(3, 99, 6, 3);
        z.sort(3, 99, 5, 3);
        z.come(0, 0);
        z.come(0, 0);
        z.come(1, 0);
        z.come(2, 0);
        Checks.window(z, "price 6");
        z.order(1, 1);
        checks.dues("affords", Made.comers(z, 0, 2), 0, 0, 1, 0);
    }

    /** Who comes by the text. */
    private static void text() {
        PennyQueue x = new PennyQueue();
        x.sort(0, 99, 0, 1);
        x.sort(0, 99, 0, 2);
        x.order(0, 1);
        Checks.window(x, "come 1 t=3;come 0 t=3|t=5;come 0 t<1;come 2 t=4;come 0 t<1");
        x.come(1, 3);
        checks.dues("by hand, then by sorts", Made.comers(x, 0, 0), 0, 1, 0, 1, 0);
        checks.dues("minutes", Made.comers(x, 0, 1), 0, 3, 3, 3, 5);
        x.sort(0, 99, 0, 3);
        checks.dues("a sort that is there then", Made.comers(x, 0, 0), 0, 1, 0, 1, 2, 0);
        x.clear();
        Checks.window(x, "come 0 n<5;most 3");
        due("most", x.all(0, 0), 3);
        Checks.window(x, "come 0 n<5");
        due("ahead", x.all(0, 0), 5);
        // the lines as they are when it is the sort's turn: sort 0 stands in the free line, then sort 1 doesn't come
        Checks.window(x, "come 0 t<2;come 1 f=0;most 9");
        checks.dues("as the lines are then", Made.comers(x, 0, 0), 0, 0, 1, 1, 1, 1, 1, 1, 1);
        // 1 comes as soon as the line is empty: while one is at the window, one may stand
        checks.dues("minutes", Made.comers(x, 0, 1), 0, 1, 2, 3, 5, 7, 9, 11, 13);
        Checks.window(x, "come 0 !t<57&(f<9|l=1)&n>0|t=57");
        checks.dues("not, and, or", Made.comers(x, 0, 1), 57, 58, 59);
        // those who went home count in n
        PennyQueue y = new PennyQueue();
        y.sort(1, 0, 0, 9);
        y.order(0, 1);
        Checks.window(y, "come 0 n<4");
        checks.dues("also those who went home", Made.comers(y, 0, 2), 0, 2, 2, 2);
        // 30 without a window, and no clauses
        Checks.window(y, "come 0 t<60");
        due("30 at most", y.all(0, 0), 30);
        Checks.window(y, "come 0 t<60;most 40");
        due("40 told", y.all(0, 0), 40);
        // the paying line
        PennyQueue z = four();
        z.order(1, 1);
        Checks.window(z, "price 1;come 0 l=2;come 0 l>2&n<6;most 6");
        checks.dues("l counts the paying line", Made.comers(z, 0, 1), 0, 0, 0, 0, 1, 1);
    }

    // ---- promises 16 to 22

    private static void price() {
        PennyQueue x = four();
        x.order(1, 1);
        x.order(0, 1);
        long[] lost = new long[21], pence = new long[21];
        for (int n = 0; n <= 20; n++) {
            PennyQueue y = four();
            Checks.window(y, "price " + n);
            y.order(1, 1);
            lost[n] = y.all(0, 4);
            pence[n] = y.all(0, 5);
        }
        int least = 0, most = 0, none = -5;
        for (int n = 1; n <= 20; n++) {
            least = lost[n] < lost[least] ? n : least;
            most = pence[n] > pence[most] ? n : most;
            none = none < 0 && pence[n] == 0 ? n : none;
        }
        due("least lost", x.price(0, 0), least);
        due("most pence", x.price(0, 1), most);
        due("no pence", x.price(0, 2), none);
        due("that lost", x.price(0, 3), lost[least]);
        due("those pence", x.price(0, 4), pence[most]);
        // by hand: purses 5 and 10: with 10 both of sort 1 still pay (no one else), with 11 nobody can
        due("no pence by hand", x.price(0, 2), 11);
        due("most pence by hand", x.price(0, 4), 20);
        due("with 10", x.price(0, 1), 10);
        due("order: price 0", x.price(1, 0), 0);
        due("order: of several the least", x.price(1, 1), 0);
        due("order: 1", x.price(1, 2), 1);
        due("order: lost", x.price(1, 3), 36);
        due("order: pence", x.price(1, 4), 0);
        due("what 5", x.price(0, 5), -1);
        due("what -1", x.price(0, -1), -1);
        due("order 2", x.price(2, 0), -1);
        // always somebody who pays: a purse of 20
        PennyQueue z = new PennyQueue();
        z.sort(9, 99, 20, 9);
        z.come(0, 0);
        z.come(0, 0);
        z.order(1, 1);
        due("pence with all", z.price(0, 2), -5);
        due("20", z.price(0, 1), 20);
        // the window's own price is as it was
        Checks.window(z, "price 7");
        z.price(0, 0);
        due("what is asked changes nothing", z.told(0), 7);
        due("nor the pence", z.all(0, 5), 7);
    }

    private static void worseAndLoss() {
        PennyQueue x = four();
        Checks.window(x, "price 1");
        x.order(0, 1);
        x.order(1, 1);
        // by order: sort 0 waits 3 at 2; sort 1 waits 6 at 5, one home (30). By first: 7 and 0 at 2, 1 paid; 3, 4 at 5, 2 paid
        due("loss 0", x.loss(0, 0), 6);
        due("loss 1", x.loss(0, 1), 60);
        due("first: loss 0", x.loss(1, 0), 15);
        due("first: loss 1", x.loss(1, 1), 37);
        due("as without", x.worse(0), 0);
        due("first: 0 is worse off", x.worse(1), 1);
        due("order 2", x.worse(2), -1);
        due("loss, order 2", x.loss(2, 0), -1);
        due("loss, sort 2", x.loss(0, 2), -1);
        due("loss, sort -1", x.loss(0, -1), -1);
        // the same loss is not worse; told home costs the service
        PennyQueue y = four();
        y.order(6, 1);
        y.row(0, 2, 2);
        due("home: service", y.loss(0, 1), 30 + 5 * 2);
        y.row(0, 3, 2);
        due("home, both", y.loss(0, 1), 60);
        due("as much is not worse", y.worse(0) & 2, 0);
        y.row(0, 0, 2);
        y.row(0, 1, 2);
        due("sort 0 goes home", y.loss(0, 0), 40);
        due("worse", y.worse(0), 1);
        PennyQueue z = new PennyQueue();
        z.sort(1, 5, 0, 1);
        z.sort(1, 5, 0, 1);
        z.come(0, 0);
        z.come(1, 1);
        z.order(6, 1);
        z.row(0, 0, 2);
        z.row(0, 1, 2);
        due("bits of both", z.worse(0), 3);
    }

    private static void slow() {
        PennyQueue x = four();
        Checks.window(x, "price 1");
        x.order(1, 1);
        x.order(0, 1);
        // 1 more: times 4 and 3; 3: paying 3 + 3, 5 * 6 + 1 > 30: home; so a penny less
        due("1 more", x.slow(0, 1), -1);
        due("nobody pays by order", x.slow(1, 9), 0);
        due("n 0", x.slow(0, 0), -100002);
        due("n 10", x.slow(0, 10), -100002);
        due("order 2", x.slow(2, 1), -100001);
        due("order -1", x.slow(-1, 0), -100001);
        due("what is asked changes nothing", x.told(1), 0);
        // more pence: with time 1 the second comes to an empty window; with 1 more there is one to pass
        PennyQueue y = new PennyQueue();
        y.sort(9, 99, 20, 1);
        y.come(0, 0);
        y.come(0, 1);
        y.come(0, 1);
        Checks.window(y, "price 9");
        y.order(1, 1);
        due("without", y.all(0, 5), 0);
        due("1 more", y.slow(0, 1), 9);
        // behind 20 there is still more: with 9 more times of 30 send the second home
        PennyQueue z = new PennyQueue();
        z.sort(1, 25, 20, 1);
        z.come(0, 0);
        z.come(0, 0);
        Checks.window(z, "price 4;more 20");
        z.order(1, 1);
        due("with 20", z.all(0, 5), 4);
        due("with 29", z.slow(0, 9), 0);
        PennyQueue w = new PennyQueue();
        w.sort(1, 35, 20, 1);
        w.come(0, 0);
        w.come(0, 0);
        w.come(0, 0);
        Checks.window(w, "price 9;more 20");
        w.order(1, 1);
        due("two pay", w.all(0, 5), 18);
        due("one stays", w.slow(0, 9), -9);
    }

    private static void early() {
        PennyQueue x = four();
        x.order(0, 1);
        x.order(1, 1);
        // by order the window is taken till 8: from then on nobody waits
        due("early", x.early(0, 0, 0), 8);
        due("waits", x.early(0, 0, 1), 0);
        due("sort 2", x.early(0, 2, 0), -1);
        due("sort -1", x.early(0, -1, 0), -1);
        due("order 2", x.early(2, 0, 0), -1);
        due("what 2", x.early(0, 0, 2), -1);
        due("what -1", x.early(0, 0, -1), -1);
        due("what is asked changes nothing", x.count(3), 4);
        Checks.window(x, "most 4");
        // in minute 0 it comes as the fourth, behind three who are there 3, 3 and 2 minutes; in 1 as a fifth
        due("most: must come ahead of the last", x.early(0, 0, 0), 0);
        due("most: waits", x.early(0, 0, 1), 8);
        Checks.window(x, "most 3");
        due("most came", x.early(0, 0, 0), -5);
        due("most came, waits", x.early(0, 0, 1), -5);
        // at all minutes home: nothing is worth its wait
        PennyQueue y = new PennyQueue();
        y.sort(1, 99, 0, 9);
        y.sort(9, 0, 0, 9);
        Checks.window(y, "come 0 t<60&f<3");
        y.order(0, 1);
        due("home", y.early(0, 1, 0), 0);
        y.come(0, 0);
        due("home at all of them", y.early(0, 1, 0), -5);
        due("home at all of them, waits", y.early(0, 1, 1), -5);
        for (int k = 1; k < 12; k++) {
            y.come(0, 0);
        }
        due("twelve", y.early(0, 1, 0), -4);
        due("none ahead of full", y.early(0, 2, 0), -1);
    }

    private static void sell() {
        PennyQueue x = new PennyQueue();
        x.sort(1, 99, 0, 1);
        x.sort(2, 99, 0, 2);
        x.sort(5, 99, 0, 2);
        x.order(0, 1);
        x.come(0, 0);
        x.come(0, 0);
        x.come(1, 0);
        x.come(2, 0);
        x.come(0, 0);
        // 0 0: the same sort. 0 1: 2 * 1 and 1 * 2: no more. 1 2: 5 * 2 > 2 * 2. 2 0: 1 * 2 < 5 * 1
        due("sell", x.sell(0), 1);
        Checks.window(x, "more 1");
        // 0 1: 2 * 2 > 1 * 3
        due("with more", x.sell(0), 2);
        due("order 1", x.sell(1), -1);
        due("order -1", x.sell(-1), -1);
    }

    private static void mean() {
        PennyQueue x = new PennyQueue();
        x.sort(2, 99, 0, 3);
        x.sort(3, 99, 0, 5);
        x.order(0, 1);
        x.come(0, 0);
        x.come(1, 0);
        due("sure", x.mean(0, 0), 9);
        due("sure, below", x.mean(0, 1), 1);
        x.odds(0, 5);
        due("a half", x.mean(0, 0), 9);
        due("a half, below", x.mean(0, 1), 2);
        x.odds(1, 3);
        // 9 * 5 * 3 / 100
        due("by both", x.mean(0, 0), 27);
        due("by both, below", x.mean(0, 1), 20);
        x.odds(0, 0);
        due("never", x.mean(0, 0), 0);
        due("never, below", x.mean(0, 1), 1);
        x.odds(0, 10);
        x.odds(1, 10);
        for (int k = 0; k < 4; k++) {
            x.come(0, 10);
        }
        // three more wait 3, 6, 9 at 2
        due("six", x.mean(0, 0), 9 + 36);
        x.odds(0, 1);
        due("below the line at most 10 to the 6", 1000000 % x.mean(0, 1), 0);
        x.come(0, 0);
        due("seven", x.mean(0, 0), PennyQueue.NO);
        x.clear();
        due("part 2", x.mean(0, 2), PennyQueue.NO);
        due("part -1", x.mean(0, -1), PennyQueue.NO);
        due("order 1", x.mean(1, 0), PennyQueue.NO);
        due("order -1", x.mean(-1, 0), PennyQueue.NO);
        // those of the text always come: odds don't matter to them
        Checks.window(x, "come 0 t=0;come 1 t=0");
        due("by the text", x.mean(0, 0), 9);
        due("by the text, below", x.mean(0, 1), 1);
    }

    // ---- promise 23

    private static void judge() {
        PennyQueue x = four();
        x.order(0, 1);
        // served are 0, 0, 1
        x.tape(0, 0, 6);
        x.item(0, 3, 1);
        due("from 1 on", x.judge(0, 1, 3, 0), -5);
        due("from 0 on", x.judge(0, 0, 3, 0), 2);
        due("none to look at", x.judge(0, 0, 0, 0), -5);
        due("who was not served", x.judge(0, 1, 4, 0), 3);
        due("the first", x.judge(0, 3, 1, 0), 0);
        due("ends at once", x.judge(0, 6, 1, 0), 100);
        due("ends behind one", x.judge(0, 5, 3, 0), 101);
        due("far beyond", x.judge(0, Integer.MAX_VALUE, 3, 0), 100);
        due("below 0", x.judge(0, -1, 2, 0), 100);
        due("holds nothing", x.judge(1, 0, 2, 0), 100);
        due("holds nothing, none to look at", x.judge(1, 0, 0, 0), -5);
        x.tape(2, 0, 3);
        x.item(2, 2, 1);
        due("whole row", x.judge(2, 0, 3, 0), -5);
        due("ends ahead of one not served", x.judge(2, 0, 4, 0), 103);
        x.item(2, 2, 257);
        due("a byte", x.judge(2, 0, 3, 0), -5);
        for (int sort = 1; sort < 5; sort++) {
            x.tape(3, sort, 6);
            due("no bytes", x.judge(3, 0, 1, 0), -12);
        }
        due("n 41", x.judge(0, 0, 41, 0), -2);
        due("n -1", x.judge(0, 0, -1, 0), -2);
        due("bad ahead of cast", x.judge(3, 0, 41, 0), -2);
        due("n 40", x.judge(0, 1, 40, 0), 3);
        due("tape 6", x.judge(6, 0, 1, 0), -1);
        due("tape -1", x.judge(-1, 0, 1, 0), -1);
        due("order 1", x.judge(0, 0, 1, 1), -1);
        due("none ahead of bad", x.judge(0, 0, 41, 1), -1);
    }

    // ---- promises 24, 25

    private static void imageAndUndo() {
        PennyQueue x = four();
        x.order(6, 1);
        x.order(0, 1);
        Checks.window(x, "price 1");
        x.odds(1, 4);
        due("image", x.image(), 4);
        Checks.window(x, "price 2");
        x.odds(0, 3);
        x.odds(1, 5);
        x.sort(1, 1, 1, 1);
        x.odds(2, 6);
        x.row(0, 0, 2);
        x.clear();
        x.come(0, 9);
        x.tape(0, 2, 3);
        x.feed('m', 1);
        due("undo", x.undo(), 4);
        due("window", x.told(0), 1);
        due("windows stay", x.count(1), 2);
        due("odds 0", x.of(0, 4), 10);
        due("odds 1", x.of(1, 4), 4);
        due("a sort that came later stays as it is", x.of(2, 4), 6);
        due("sorts stay", x.count(0), 3);
        due("orders stay", x.count(2), 2);
        due("told by hand", x.count(3), 4);
        due("rows stay", x.row(0, 0, 1), 2);
        due("the text stays", x.count(4), 1);
        due("tapes stay", x.read(0, 2), 0);
        checks.dues("who comes", Made.comers(x, 1, 0), 0, 0, 1, 1);
        checks.dues("when", Made.comers(x, 1, 1), 0, 0, 0, 1);
        x.clear();
        due("again", x.undo(), 4);
        x.clear();
        due("image of nobody", x.image(), 0);
        x.come(0, 0);
        due("undo to nobody", x.undo(), 0);
        PennyQueue y = new PennyQueue();
        due("image of nothing", y.image(), 0);
        Checks.window(y, "price 5");
        due("undo", y.undo(), 0);
        due("no window holds", y.told(0), 0);
        due("the next one's number", Checks.window(y, "price 6"), 1);
        due("and it holds", y.told(0), 6);
    }

    // ---- promises 26 to 28

    private static void actAndTrace() {
        PennyQueue x = new PennyQueue();
        for (int k = 0; k < 7; k++) {
            x.order(k, k + 2);
        }
        acts(x, 0, 0, 5, 5, 10);
        acts(x, 0, 1, 5, 3, 11, 10);
        acts(x, 0, 2, 5, 6, 12, 11, 10);
        acts(x, 1, 0, 5, 6, 10);
        acts(x, 1, 1, 5, 3 ^ 6, 20, 11, 10);
        acts(x, 1, 2, 5, (3 ^ 6) * 2, 12, 20, 11, 10);
        acts(x, 2, 0, 5, 17, 30, 10);
        acts(x, 2, 1, 5, 13, 11, 30, 10);
        acts(x, 2, 2, 5, 26, 12, 11, 30, 10);
        acts(x, 3, 0, 5, -8, 50, 10);
        acts(x, 3, 1, 5, (-9 - 5) ^ 6, 51, 20, 11, 50, 10);
        acts(x, 3, 2, 5, ((-9 - 5) ^ 6) * 2, 12, 51, 20, 11, 50, 10);
        acts(x, 4, 0, 5, 19, 30, 10);
        acts(x, 4, 1, 5, 13, 11, 30, 10);
        acts(x, 4, 2, 5, (3 + 4 - 6) * 2, 60, 12, 11, 30, 10);
        acts(x, 5, 0, 7, 12, 10);
        acts(x, 5, 1, 7, 5, 11, 10);
        acts(x, 5, 2, 7, 10 + (6 - 7), 40, 12, 11, 10, 11, 10);
        acts(x, 6, 0, 5, 11 ^ 8, 71, 10);
        acts(x, 6, 1, 5, (((11 ^ 8) - 8) ^ 6) + 8, 70, 20, 11, 71, 10, 10);
        acts(x, 6, 2, 5, ((((11 ^ 8) - 8) ^ 6) + 8) * 2, 12, 70, 20, 11, 71, 10, 10);
        acts(x, 2, 0, Integer.MAX_VALUE, Integer.MAX_VALUE * 3 + 2, 30, 10);
        acts(x, 0, 2, Integer.MIN_VALUE, (Integer.MIN_VALUE - 2) * 2, 12, 11, 10);
        due("order 7", x.act(7, 0, 5), 0);
        due("no trace then", x.trace(0), -1);
        due("no bodies then", x.count(5), 0);
        x.act(0, 0, 5);
        due("act 3", x.act(0, 3, 5), 0);
        due("no trace then", x.trace(0), -1);
        x.act(0, 0, 5);
        due("act -1", x.act(0, -1, 5), 0);
        due("no bodies then", x.count(5), 0);
        x.act(0, 0, 5);
        due("order -1", x.act(-1, 0, 5), 0);
        due("trace -1", x.trace(-1), -1);
    }

    private static void acts(PennyQueue x, int order, int act, int with, int want, int... bodies) {
        String what = "act " + order + " " + act + " " + with;
        due(what, x.act(order, act, with), want);
        due(what + ": bodies", x.count(5), bodies.length);
        for (int i = 0; i < bodies.length; i++) {
            due(what + ": trace " + i, x.trace(i), bodies[i]);
        }
        due(what + ": end", x.trace(bodies.length), -1);
    }

    private static void taken() {
        int[] under = {-1, 0, 0, 1, 2, 0, 1};
        PennyQueue x = new PennyQueue();
        for (int kind = 0; kind < 7; kind++) {
            x.order(kind, 1);
        }
        for (int kind = 0; kind < 7; kind++) {
            for (int k = 0; k < 7; k++) {
                boolean is = kind == k || under[kind] == k || under[kind] > 0 && under[under[kind]] == k;
                due("taken " + kind + " for " + k, x.taken(kind, k), is ? kind : -12);
            }
        }
        due("order 7", x.taken(7, 0), -11);
        due("order -1", x.taken(-1, 0), -11);
        due("kind 7", x.taken(0, 7), -2);
        due("kind -1", x.taken(0, -1), -2);
        due("bad ahead of nothing", x.taken(7, 7), -2);
    }

    // ---- promises 29 to 33

    private static void count() {
        PennyQueue x = four();
        Checks.window(x, "price 1");
        x.order(0, 1);
        x.order(0, 1);
        x.order(0, 1);
        x.feed(0, 3);
        x.feed(0, 2);
        x.act(1, 2, 0);
        x.come(0, 0);
        long[] want = {2, 1, 3, 5, 5, 3};
        for (int what = 0; what < 6; what++) {
            due("count " + what, x.count(what), want[what]);
        }
        due("what 6", x.count(6), -2);
        due("what -1", x.count(-1), -2);
    }

    private static void tape() {
        PennyQueue x = new PennyQueue();
        due("tape 6", x.tape(6, 0, 1), -1);
        due("tape -1", x.tape(-1, 9, 1), -1);
        due("sort 5", x.tape(0, 5, 1), -2);
        due("sort -2", x.tape(0, -2, 1), -2);
        due("n 61", x.tape(0, 0, 61), -2);
        due("n -1", x.tape(0, 0, -1), -14);
        due("bad ahead of size", x.tape(0, 5, -1), -2);
        due("still nothing", x.item(0, 0, 0), -11);
        due("60", x.tape(0, 3, 60), 1);
        due("the last is 0", x.read(0, 59), 0);
        due("no more", x.read(0, 60), PennyQueue.NO);
        x.item(0, 4, 9);
        due("anew", x.tape(0, 3, 5), 1);
        due("all 0", x.read(0, 4), 0);
        due("shorter", x.read(0, 5), PennyQueue.NO);
        due("a refusal changes nothing", x.tape(0, 3, -1), -14);
        due("still there", x.read(0, 4), 0);
        due("a row of none", x.tape(0, 0, 0), 1);
        due("something is there", x.item(0, 0, 1), -13);
        due("nothing, n below 0", x.tape(0, -1, -7), 1);
        due("nothing is there", x.item(0, 0, 1), -11);
        due("nothing, n above 60", x.tape(5, -1, 99), 1);
    }

    private static void item() {
        PennyQueue x = new PennyQueue();
        long v = 0x123456789abcdef0L;
        long[] want = {(byte) v, (short) v, (int) v, v, 1};
        for (int sort = 0; sort < 5; sort++) {
            x.tape(sort, sort, 2);
            due("item", x.item(sort, 1, v), 1);
            due("read, sort " + sort, x.read(sort, 1), want[sort]);
            due("the other", x.read(sort, 0), 0);
        }
        x.item(4, 1, 0);
        due("false", x.read(4, 1), 0);
        x.item(4, 1, 1L << 40);
        due("not 0", x.read(4, 1), 1);
        x.item(0, 0, 200);
        due("a byte", x.read(0, 0), -56);
        x.item(1, 0, 0x18000);
        due("a short", x.read(1, 0), -32768);
        x.item(2, 0, 1L << 31);
        due("an int", x.read(2, 0), Integer.MIN_VALUE);
        due("tape 6", x.item(6, 0, 0), -1);
        due("tape -1", x.item(-1, 0, 0), -1);
        due("nothing", x.item(5, -1, 0), -11);
        due("place 2", x.item(0, 2, 0), -13);
        due("place -1", x.item(0, -1, 0), -13);
    }

    private static void read() {
        PennyQueue x = new PennyQueue();
        x.tape(0, 3, 3);
        x.item(0, 2, -7);
        due("read", x.read(0, 2), -7);
        due("place 3", x.read(0, 3), PennyQueue.NO);
        due("place -1", x.read(0, -1), PennyQueue.NO);
        due("nothing", x.read(1, 0), PennyQueue.NO);
        due("tape 6", x.read(6, 0), PennyQueue.NO);
        due("tape -1", x.read(-1, 0), PennyQueue.NO);
    }

    private static void shift() {
        PennyQueue x = new PennyQueue();
        x.tape(0, 1, 5);
        x.tape(1, 1, 3);
        x.tape(2, 2, 3);
        for (int i = 0; i < 5; i++) {
            x.item(0, i, i + 1);
        }
        due("to another", x.shift(0, 2, 1, 0, 3), 3);
        due("3", x.read(1, 0), 3);
        due("5", x.read(1, 2), 5);
        due("up in the same", x.shift(0, 0, 0, 1, 4), 4);
        long[] up = {1, 1, 2, 3, 4};
        for (int i = 0; i < 5; i++) {
            due("up " + i, x.read(0, i), up[i]);
        }
        due("down in the same", x.shift(0, 2, 0, 0, 3), 3);
        long[] down = {2, 3, 4, 3, 4};
        for (int i = 0; i < 5; i++) {
            due("down " + i, x.read(0, i), down[i]);
        }
        due("none at the ends", x.shift(0, 5, 1, 3, 0), 0);
        due("tape 6", x.shift(6, 0, 0, 0, 1), -1);
        due("other -1", x.shift(0, 0, -1, 0, 1), -1);
        due("nothing", x.shift(3, 0, 0, 0, 1), -11);
        due("nothing there", x.shift(0, 0, 3, 0, 1), -11);
        due("nothing ahead of place", x.shift(0, -1, 3, 0, 1), -11);
        due("unlike", x.shift(0, 0, 2, 0, 1), -12);
        due("cast ahead of place", x.shift(0, -1, 2, 0, 1), -12);
        int[][] places = {{0, 0, -1}, {-1, 0, 1}, {0, -1, 1}, {3, 0, 3}, {0, 1, 3}, {6, 0, 0}, {0, 4, 0},
            {Integer.MAX_VALUE, 0, 1}, {0, Integer.MAX_VALUE, 1}, {1, 1, Integer.MAX_VALUE}};
        for (int[] p : places) {
            due("place " + p[0] + " " + p[1] + " " + p[2], x.shift(0, p[0], 1, p[1], p[2]), -13);
        }
        due("a refusal changes nothing", x.read(1, 1), 4);
    }
}
