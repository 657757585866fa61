/**
 * From where to where each number of each call goes: the last that is taken and the first that is refused, on both
 * sides; how many there may be of each thing; numbers that wrap around.
 */
public final class NumberEdgeTest {
    private static final Checks checks = new Checks("number edges");
    private static final int NONE = -1, BAD = -2, NOTHING = -11, PLACE = -13, SIZE = -14;
    private static final long NO = Long.MIN_VALUE;

    private interface Call {
        long with(PennyQueue x, int n);
    }

    public static void main(String[] args) {
        sorts();
        days();
        orders();
        asked();
        judged();
        acts();
        tapes();
        howMany();
        kept();
        wrapping();
        wrappingOfAll();
        fitted();
        checks.end();
    }

    private static void due(String what, long got, long want) {
        checks.due(what, got, want);
    }

    /** Two sorts, three orders (the third is TOLD), a window, three by hand, an act, tapes 0 (five bytes) and 1 (none). */
    private static PennyQueue made() {
        PennyQueue x = Made.of(Made.s(2, 99, 5, 3), Made.s(5, 99, 10, 2));
        x.order(0, 1);
        x.order(1, 1);
        x.order(6, 1);
        Checks.window(x, "price 1");
        Made.come(x, 0, 0, 0, 1);
        x.act(0, 2, 1);
        x.tape(0, 0, 5);
        x.tape(1, 0, 0);
        return x;
    }

    /** Numbers from least to most are taken, others get the refusal; each on a queue of its own. */
    private static void range(String what, long least, long most, long refusal, Call call) {
        long[] numbers = {least - 2, least - 1, least, least + 1, (least + most) / 2, most - 1, most, most + 1, most + 2,
            256 + least, 65536 + least, Integer.MIN_VALUE, Integer.MAX_VALUE};
        for (long n : numbers) {
            boolean taken = n >= least && n <= most;
            long got = call.with(made(), (int) n);
            if (taken) {
                due(what + " " + n + " refused", got == refusal ? 1 : 0, 0);
            } else {
                due(what + " " + n, got, refusal);
            }
        }
    }

    private static void sorts() {
        range("worth", 0, 9, BAD, (x, n) -> x.sort(n, 1, 1, 1));
        range("service", 0, 99, BAD, (x, n) -> x.sort(1, n, 1, 1));
        range("purse", 0, 20, BAD, (x, n) -> x.sort(1, 1, n, 1));
        range("time", 1, 9, BAD, (x, n) -> x.sort(1, 1, 1, n));
        range("sort of of", 0, 1, NONE, (x, n) -> x.of(n, 0));
        range("what of of", 0, 4, NONE, (x, n) -> x.of(0, n));
        range("sort of odds", 0, 1, NONE, (x, n) -> x.odds(n, 0));
        range("odds", 0, 10, BAD, (x, n) -> x.odds(0, n));
        for (int n = 0; n <= 99; n++) {
            PennyQueue x = new PennyQueue();
            int worth = Math.min(n, 9), purse = Math.min(n, 20), time = Math.max(1, Math.min(n, 9));
            due("sort", x.sort(worth, n, purse, time), 0);
            due("worth", x.of(0, 0), worth);
            due("service", x.of(0, 1), n);
            due("purse", x.of(0, 2), purse);
            due("time", x.of(0, 3), time);
            due("odds", x.of(0, 4), 10);
            due("odds were", x.odds(0, n % 11), 10);
            due("odds are", x.of(0, 4), n % 11);
            due("odds were then", x.odds(0, 10), n % 11);
        }
    }

    private static void days() {
        range("bytes", 0, 4, BAD, (x, n) -> x.feed(0, n));
        range("what of told", 0, 2, NONE, (x, n) -> x.told(n));
        range("sort of come", 0, 1, NONE, (x, n) -> x.come(n, 0));
        range("minute of come", 0, 59, NONE, (x, n) -> x.come(0, n));
        for (int minute = 0; minute < 60; minute++) {
            PennyQueue x = Made.of(Made.s(0, 0, 0, 1));
            x.order(0, 1);
            due("come", x.come(0, minute), 1);
            due("comes", x.comer(0, 0, 1), minute);
        }
    }

    private static void orders() {
        range("kind", 0, 6, NONE, (x, n) -> x.order(n, 1));
        range("v", 1, 9, BAD, (x, n) -> x.order(0, n));
        range("order of row", 0, 2, NONE, (x, n) -> x.row(n, 0, 0));
        range("i of row", 0, 9, NONE, (x, n) -> x.row(2, n, 0));
        range("n of row", -1, 2, BAD, (x, n) -> x.row(2, 0, n));
        range("order of comer", 0, 2, -1001, (x, n) -> x.comer(n, 0, 0));
        range("i of comer", 0, 2, -1001, (x, n) -> x.comer(0, n, 0));
        range("what of comer", 0, 5, -1001, (x, n) -> x.comer(0, 0, n));
        range("order of served", 0, 2, NONE, (x, n) -> x.served(n, 0, 0));
        range("i of served", 0, 2, NONE, (x, n) -> x.served(0, n, 0));
        range("what of served", 0, 1, NONE, (x, n) -> x.served(0, 0, n));
        range("order of all", 0, 2, NONE, (x, n) -> x.all(n, 0));
        range("what of all", 0, 7, NONE, (x, n) -> x.all(0, n));
        range("order of stand", 0, 2, NONE, (x, n) -> x.stand(n, 0, 0));
        range("line", 0, 1, NONE, (x, n) -> x.stand(0, n, 0));
        range("minute of stand", 0, 99, BAD, (x, n) -> x.stand(0, 0, n));
    }

    private static void asked() {
        range("order of price", 0, 2, NONE, (x, n) -> x.price(n, 0));
        range("what of price", 0, 4, NONE, (x, n) -> x.price(0, n));
        range("order of worse", 0, 2, NONE, (x, n) -> x.worse(n));
        range("order of loss", 0, 2, NONE, (x, n) -> x.loss(n, 0));
        range("sort of loss", 0, 1, NONE, (x, n) -> x.loss(0, n));
        range("order of slow", 0, 2, -100001, (x, n) -> x.slow(n, 1));
        range("n of slow", 1, 9, -100002, (x, n) -> x.slow(0, n));
        range("order of early", 0, 2, NONE, (x, n) -> x.early(n, 0, 0));
        range("sort of early", 0, 1, NONE, (x, n) -> x.early(0, n, 0));
        range("what of early", 0, 1, NONE, (x, n) -> x.early(0, 0, n));
        range("order of sell", 0, 2, NONE, (x, n) -> x.sell(n));
        range("order of mean", 0, 2, NO, (x, n) -> x.mean(n, 0));
        range("part", 0, 1, NO, (x, n) -> x.mean(0, n));
    }

    private static void judged() {
        range("tape of judge", 0, 5, NONE, (x, n) -> x.judge(n, 0, 1, 0));
        range("n of judge", 0, 40, BAD, (x, n) -> x.judge(0, 0, n, 0));
        range("order of judge", 0, 2, NONE, (x, n) -> x.judge(0, 0, 1, n));
        range("place of judge", 0, 4, 100, (x, n) -> x.judge(0, n, 1, 0));
    }

    private static void acts() {
        // joins(1) of order 0 is 1, of order 1 it is 2, and so on: no 0
        range("order of act", 0, 2, 0, (x, n) -> x.act(n, 0, 1));
        range("act", 0, 2, 0, (x, n) -> x.act(1, n, 2));
        range("place of trace", 0, 2, NONE, (x, n) -> x.trace(n));
        range("order of taken", 0, 2, NOTHING, (x, n) -> x.taken(n, 0));
        range("kind of taken", 0, 6, BAD, (x, n) -> x.taken(2, n));
        range("what of count", 0, 5, BAD, (x, n) -> x.count(n));
    }

    private static void tapes() {
        range("tape of tape", 0, 5, NONE, (x, n) -> x.tape(n, 0, 1));
        range("sort of tape", -1, 4, BAD, (x, n) -> x.tape(0, n, 1));
        range("tape of item", 0, 5, NONE, (x, n) -> x.item(n, 0, 1));
        range("place of item", 0, 4, PLACE, (x, n) -> x.item(0, n, 1));
        range("place of read", 0, 4, NO, (x, n) -> x.read(0, n));
        range("tape of read, the others hold nothing", 0, 0, NO, (x, n) -> x.read(n, 0));
        range("tape of shift", 0, 5, NONE, (x, n) -> x.shift(n, 0, 0, 0, 1));
        range("other of shift", 0, 5, NONE, (x, n) -> x.shift(0, 0, n, 0, 1));
        range("place of shift", 0, 3, PLACE, (x, n) -> x.shift(0, n, 0, 0, 2));
        range("other place of shift", 0, 3, PLACE, (x, n) -> x.shift(0, 0, 0, n, 2));
        range("n of shift", 0, 3, PLACE, (x, n) -> x.shift(0, 2, 0, 0, n));
        range("n of shift to the other's end", 0, 3, PLACE, (x, n) -> x.shift(0, 0, 0, 2, n));
        // n: above 60 is BAD, below 0 SIZE; for nothing it does not matter
        for (int sort = -1; sort < 5; sort++) {
            int[] numbers = {Integer.MIN_VALUE, -2, -1, 0, 1, 59, 60, 61, 62, 256, Integer.MAX_VALUE};
            for (int n : numbers) {
                PennyQueue x = made();
                due("tape of sort " + sort + " of " + n, x.tape(3, sort, n),
                    sort < 0 ? 1 : n < 0 ? SIZE : n > 60 ? BAD : 1);
                boolean there = sort >= 0 && n > 0 && n <= 60;
                due("its first", x.read(3, 0), there ? 0 : NO);
                due("its last", there ? x.read(3, n - 1) : 0, 0);
                due("behind its last", x.read(3, n > 60 || n < 0 ? 60 : n), NO);
                due("a place ahead of it", x.item(3, -1, 1), sort >= 0 && n >= 0 && n <= 60 ? PLACE : NOTHING);
            }
        }
        // what was longer before isn't any more
        PennyQueue y = new PennyQueue();
        y.tape(0, 3, 60);
        y.item(0, 59, 7);
        y.item(0, 2, 7);
        y.tape(0, 3, 3);
        due("item 3 of 3", y.item(0, 3, 1), PLACE);
        due("read 3 of 3", y.read(0, 3), NO);
        due("all 0", y.read(0, 2), 0);
        y.tape(0, -1, 60);
        due("nothing", y.read(0, 0), NO);
        y.tape(0, 3, 60);
        due("all 0 to the end", y.read(0, 59), 0);
    }

    /** How many there may be: each up to the last, and one more; and again where there can be fewer. */
    private static void howMany() {
        PennyQueue x = new PennyQueue();
        for (int k = 0; k < 6; k++) {
            due("sort", x.sort(k, k, k, k + 1), k);
        }
        due("a seventh sort", x.sort(1, 1, 1, 1), -4);
        for (int k = 0; k < 6; k++) {
            due("each as it was", x.of(k, 3), k + 1);
        }
        for (int k = 0; k < 10; k++) {
            due("order", x.order(k % 7, 1 + k % 9), k);
        }
        for (int kind = 0; kind < 7; kind++) {
            due("an eleventh order", x.order(kind, 1), -4);
        }
        for (int k = 0; k < 10; k++) {
            due("each of its kind", x.taken(k, 0), k % 7);
        }
        due("orders", x.count(2), 10);
        for (int k = 1; k <= 12; k++) {
            due("come", x.come(k % 6, k), k);
        }
        due("a thirteenth", x.come(0, 0), -4);
        due("clear", x.clear(), 12);
        due("nobody is told", x.clear(), 0);
        for (int k = 1; k <= 12; k++) {
            due("come again", x.come(0, 0), k);
        }
        due("a thirteenth again", x.come(0, 0), -4);
    }

    /** What THE IMAGE keeps and what it doesn't; the latest one counts. */
    private static void kept() {
        PennyQueue x = new PennyQueue();
        due("none", x.undo(), -3);
        due("of nothing", x.image(), 0);
        due("back to nothing", x.undo(), 0);
        x.sort(0, 99, 0, 1);
        x.order(0, 1);
        for (int k = 0; k < 12; k++) {
            x.come(0, k);
        }
        due("twelve", x.image(), 12);
        x.clear();
        due("twelve again", x.undo(), 12);
        due("and no more", x.come(0, 0), -4);
        checks.dues("their minutes", Made.comers(x, 0, 1), 0, 1, 2, 3, 4, 5, 6, 7, 8, 9, 10, 11);
        x.clear();
        x.come(0, 30);
        due("one", x.image(), 1);
        x.come(0, 40);
        x.odds(0, 2);
        due("the latest image", x.undo(), 1);
        checks.dues("its minute", Made.comers(x, 0, 1), 30);
        due("its odds", x.of(0, 4), 10);
        due("two then", x.come(0, 50), 2);
        due("it is kept yet", x.undo(), 1);
        checks.dues("its minute again", Made.comers(x, 0, 1), 30);
        // odds of the sorts that there were; those of a sort that came behind the image stay, and so does the sort
        x.sort(1, 1, 1, 1);
        due("odds of the second", x.odds(1, 7), 10);
        x.odds(0, 4);
        due("the image has one sort", x.undo(), 1);
        due("its odds again", x.of(0, 4), 10);
        due("the second's stay", x.of(1, 4), 7);
        due("the second stays", x.count(0), 2);
        due("an image of both", x.image(), 1);
        x.odds(1, 0);
        due("back to both", x.undo(), 1);
        due("now the second's, too", x.of(1, 4), 7);
        // which window holds: an older one, or none
        PennyQueue y = new PennyQueue();
        y.image();
        for (int k = 0; k < 6; k++) {
            Checks.window(y, "price " + (k + 1));
        }
        y.undo();
        checks.dues("none holds", new long[] {y.told(0), y.told(1), y.told(2), y.count(1)}, 0, 0, 30, 6);
        due("six there are, held or not", Checks.window(y, "price 9"), -4);
        PennyQueue z = new PennyQueue();
        Checks.window(z, "price 1");
        Checks.window(z, "price 2");
        z.image();
        Checks.window(z, "price 3");
        due("a fault", Checks.window(z, "price"), -15);
        due("the third holds", z.told(0), 3);
        z.undo();
        due("the second holds", z.told(0), 2);
        due("the fourth", Checks.window(z, "price 4"), 3);
        due("holds", z.told(0), 4);
        z.undo();
        due("the second again", z.told(0), 2);
        due("a fault now", Checks.window(z, "price"), -15);
        due("the second yet", z.told(0), 2);
    }

    // ---- ACTS with x (wrapping)

    private static void wrapping() {
        int max = Integer.MAX_VALUE, min = Integer.MIN_VALUE;
        // x + i, for each number of an order
        PennyQueue x = new PennyQueue();
        for (int i = 0; i < 10; i++) {
            x.order(0, 9);
            due("joins by " + i, x.act(i, 0, max), i == 0 ? max : min + i - 1);
            due("joins by " + i + " of the least", x.act(i, 0, min), min + i);
            due("takes by " + i, x.act(i, 1, min), i == 9 ? min : max - 8 + i);
            due("tells by " + i, x.act(i, 2, max), 2 * (i - 10));
        }
        PennyQueue y = Made.allKinds(new PennyQueue(), 9);
        due("share, three times", y.act(2, 0, max), max - 2 + 2);
        due("share, three times the least", y.act(2, 0, min), min + 2);
        due("share, three times a third", y.act(2, 0, 715827883), min + 1 + 2);
        due("length, minus", y.act(3, 0, min), max - 2);
        due("length, minus the least", y.act(3, 0, min - 3), min);
        due("length, one more", y.act(3, 1, max), (max - 2 - 9) ^ 6);
        due("poor, less i", y.act(4, 2, min), tells((max - 3) * 3 + 4 - 9));
        due("full, tells and takes", y.act(5, 2, 1 << 30), (1 << 31) - 8 + 6 - 9);
        due("told", y.act(6, 0, max), (min + 5) ^ 9);
        due("told, takes", y.act(6, 1, max), ((((min + 5) ^ 9) - 9) ^ 6) + 8);
    }

    private static int tells(int takes) {
        return takes * 2;
    }

    /** By each kind and act, numbers near the ends against the bodies told with more room and cut at the end. */
    private static void wrappingOfAll() {
        long[] numbers = {Integer.MIN_VALUE, Integer.MIN_VALUE + 1L, -1431655766, -1431655765, -715827883, -715827882, -1, 0, 1,
            715827882, 715827883, 1073741823, 1073741824, 1431655765, 1431655766, Integer.MAX_VALUE - 1L, Integer.MAX_VALUE};
        for (int v = 1; v <= 9; v += 4) {
            PennyQueue x = Made.allKinds(new PennyQueue(), v);
            for (int kind = 0; kind < 7; kind++) {
                for (long n : numbers) {
                    due("joins " + kind + " " + n, x.act(kind, 0, (int) n), (int) joins(kind, kind, v, n));
                    due("takes " + kind + " " + n, x.act(kind, 1, (int) n), (int) takes(kind, kind, v, n));
                    due("tells " + kind + " " + n, x.act(kind, 2, (int) n), (int) tells(kind, kind, v, n));
                }
            }
        }
    }

    private static long joins(int kind, int i, int v, long x) {
        switch (kind) {
            case 2, 4: return 3 * x + i;
            case 3: return -(x + i);
            case 6: return x + i ^ v;
            default: return x + i;
        }
    }

    private static long takes(int kind, int i, int v, long x) {
        switch (kind) {
            case 1: return joins(1, i, v, x) - v ^ 6;
            case 3: return joins(3, i, v, x + 1) - v ^ 6;
            case 6: return (joins(6, i, v, x) - v ^ 6) + 2 + i;
            default: return joins(kind, i, v, x) - v;
        }
    }

    private static long tells(int kind, int i, int v, long x) {
        switch (kind) {
            case 4: return 2 * takes(4, i, v, x - i);
            case 5: return 2 * takes(5, i, v, x) + takes(5, i, v, 1);
            default: return 2 * takes(kind, i, v, x);
        }
    }

    // ---- an item's lowest bits, as many as it has

    private static void fitted() {
        long[] given = {127, 128, 255, 256, -128, -129, 32767, 32768, 65535, 65536, -32768, -32769, 2147483647L, 2147483648L,
            4294967295L, 4294967296L, -2147483648L, -2147483649L, Long.MAX_VALUE, Long.MIN_VALUE, -1, 0, 1};
        PennyQueue x = new PennyQueue();
        for (int sort = 0; sort < 5; sort++) {
            x.tape(sort, sort, 1);
        }
        for (long v : given) {
            long[] want = {(byte) v, (short) v, (int) v, v, v == 0 ? 0 : 1};
            for (int sort = 0; sort < 5; sort++) {
                due("item", x.item(sort, 0, v), 1);
                due(v + " of sort " + sort, x.read(sort, 0), want[sort]);
            }
        }
    }
}
