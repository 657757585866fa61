import java.util.List;
import java.util.function.Consumer;

/**
 * Of several refusals in one call the one that the document's words name first; and a call that is refused, and one
 * that only asks, changes nothing: what later calls answer shows it.
 */
public final class RefusalTest {
    private static final Checks checks = new Checks("refusals");
    private static final int NONE = -1, BAD = -2, STATE = -3, FULL = -4;
    private static final int NOTHING = -11, CAST = -12, PLACE = -13, SIZE = -14;
    private static final long NO = Long.MIN_VALUE;

    private interface Call {
        long on(PennyQueue x);
    }

    private static Consumer<PennyQueue> state;
    private static String stateName;
    private static List<Long> before;

    public static void main(String[] args) {
        lookSees();
        in("new", x -> { });
        noneThere();
        in("some", RefusalTest::some);
        sorts();
        days();
        orders();
        hours();
        prices();
        acts();
        tapes();
        shifts();
        asks();
        in("full", RefusalTest::full);
        whenFull();
        asks();
        actsChangeTheTraceAlone();
        checks.end();
    }

    // ---- states

    private static PennyQueue made(Consumer<PennyQueue> how) {
        PennyQueue x = new PennyQueue();
        how.accept(x);
        return x;
    }

    private static void in(String name, Consumer<PennyQueue> how) {
        state = how;
        stateName = name;
        before = Look.at(() -> made(how));
    }

    /** Two sorts with odds, two windows, orders of five kinds, an image and a day that is no more as it, rows, a text. */
    private static void some(PennyQueue x) {
        x.sort(2, 99, 5, 3);
        x.sort(5, 99, 10, 2);
        x.odds(0, 3);
        Checks.window(x, "come 0 t=3;price 1;most 9");
        for (int kind : new int[] {0, 1, 6, 2, 3}) {
            x.order(kind, 2);
        }
        x.row(2, 0, 0);
        x.row(2, 1, 2);
        x.row(2, 9, 1);
        Made.come(x, 0, 0, 0, 1);
        x.image();
        Checks.window(x, "come 1 t<3;price 2;more 1");
        x.odds(1, 4);
        x.clear();
        Made.come(x, 1, 1, 1, 0, 0, 1);
        x.tape(0, 0, 5);
        x.tape(1, 1, 3);
        x.tape(2, 3, 60);
        x.tape(3, 4, 0);
        x.item(0, 1, 1);
        x.item(1, 2, 777);
        x.item(2, 59, -5);
        x.act(2, 2, 5);
        Checks.feed(x, "most ");
    }

    /** Nothing more fits: six sorts, six windows, ten orders, twelve by hand, a hundred bytes, an image of twelve. */
    private static void full(PennyQueue x) {
        for (int k = 0; k < 6; k++) {
            x.sort(k, 99, 3 * k, k + 1);
            x.odds(k, k);
            Checks.window(x, "price " + k);
        }
        for (int k = 0; k < 10; k++) {
            x.order(k % 7, k % 9 + 1);
        }
        for (int k = 0; k < 12; k++) {
            x.come(k % 6, k / 4);
        }
        x.image();
        x.odds(5, 9);
        x.row(6, 3, 2);
        x.act(6, 2, 1);
        x.tape(0, 0, 60);
        x.tape(5, 2, 2);
        for (int k = 0; k < 25; k++) {
            x.feed(0x6d6f7265, 4);
        }
    }

    /** That each thing which can change is seen when it does. */
    private static void lookSees() {
        in("some", RefusalTest::some);
        Call[] changes = {x -> x.sort(1, 1, 1, 1), x -> x.odds(0, 4), x -> x.odds(1, 5), x -> x.feed(0, 1), x -> x.window(),
            x -> x.come(0, 0), x -> x.clear(), x -> x.order(0, 1), x -> x.row(2, 9, 0), x -> x.row(2, 5, 2), x -> x.row(2, 0, -1),
            x -> x.image(), x -> x.undo(), x -> x.act(0, 0, 0), x -> x.act(9, 0, 0), x -> x.tape(3, 4, 1), x -> x.tape(4, 0, 0),
            x -> x.tape(3, -1, 0), x -> x.tape(3, 3, 0), x -> x.item(2, 0, 1), x -> x.shift(0, 1, 0, 0, 1), x -> x.tape(2, 3, 59)};
        for (int k = 0; k < changes.length; k++) {
            Call change = changes[k];
            checks.due("change " + k + " is seen", before.equals(after(change)) ? 1 : 0, 0);
        }
    }

    private static List<Long> after(Call call) {
        return Look.at(() -> {
            PennyQueue x = made(state);
            call.on(x);
            return x;
        });
    }

    private static void due(String what, long want, Call call) {
        String told = stateName + ": " + what;
        checks.due(told, call.on(made(state)), want);
        List<Long> after = after(call);
        checks.due(told + " changed " + before.size() + " answers", before.equals(after) ? 0 : 1, 0);
    }

    private static void asked(String what, Call call) {
        checks.due(stateName + ": asking " + what + " changed", before.equals(after(call)) ? 0 : 1, 0);
    }

    // ---- on a new object

    private static void noneThere() {
        due("of", NONE, x -> x.of(0, 0));
        due("odds", NONE, x -> x.odds(0, 5));
        due("feed", BAD, x -> x.feed(0, 5));
        due("feed of none", 0, x -> x.feed(0, 0));
        due("window of an empty text", -10, x -> x.window());
        due("told 3", NONE, x -> x.told(3));
        due("come", NONE, x -> x.come(0, 0));
        due("clear of nobody", 0, x -> x.clear());
        due("row", NONE, x -> x.row(0, 0, 0));
        due("comer", -1001, x -> x.comer(0, 0, 0));
        due("served", NONE, x -> x.served(0, 0, 0));
        due("all", NONE, x -> x.all(0, 0));
        due("stand", NONE, x -> x.stand(0, 0, 0));
        due("price", NONE, x -> x.price(0, 0));
        due("worse", NONE, x -> x.worse(0));
        due("loss", NONE, x -> x.loss(0, 0));
        due("slow", -100001, x -> x.slow(0, 1));
        due("early", NONE, x -> x.early(0, 0, 0));
        due("sell", NONE, x -> x.sell(0));
        due("mean", NO, x -> x.mean(0, 0));
        due("judge", NONE, x -> x.judge(0, 0, 0, 0));
        due("undo", STATE, x -> x.undo());
        due("act", 0, x -> x.act(0, 0, 0));
        due("trace", NONE, x -> x.trace(0));
        due("taken", NOTHING, x -> x.taken(0, 0));
        due("item", NOTHING, x -> x.item(0, 0, 0));
        due("read", NO, x -> x.read(0, 0));
        due("shift", NOTHING, x -> x.shift(0, 0, 0, 0, 0));
        due("a fault", -11, x -> Checks.window(x, "mist"));
    }

    // ---- sorts and the text

    private static void sorts() {
        due("worth above", BAD, x -> x.sort(10, 1, 1, 1));
        due("service below", BAD, x -> x.sort(1, -1, 1, 1));
        due("purse above", BAD, x -> x.sort(1, 1, 21, 1));
        due("time 0", BAD, x -> x.sort(1, 1, 1, 0));
        due("of no sort", NONE, x -> x.of(2, 0));
        due("of nothing", NONE, x -> x.of(0, 5));
        due("odds of no sort", NONE, x -> x.odds(2, 5));
        due("odds above", BAD, x -> x.odds(0, 11));
        due("odds below", BAD, x -> x.odds(0, -1));
        due("odds: none ahead of bad", NONE, x -> x.odds(2, 11));
        due("odds: none ahead of bad, below", NONE, x -> x.odds(-1, -1));
        due("feed 5", BAD, x -> x.feed(0, 5));
        due("feed below", BAD, x -> x.feed(0, -1));
        due("feed none", 5, x -> x.feed(99, 0));
    }

    private static void days() {
        due("come, no sort", NONE, x -> x.come(2, 0));
        due("come, minute 60", NONE, x -> x.come(0, 60));
        due("come, minute below", NONE, x -> x.come(0, -1));
        due("told 3", NONE, x -> x.told(3));
        // a fault: the text is empty then, but the one that held holds
        List<Long> empty = after(x -> x.window());
        checks.due("some: the window of a text that ends too early", made(state).window(), -15);
        PennyQueue x = made(state);
        x.window();
        checks.due("held", x.told(0), 2);
        checks.due("more", x.told(1), 1);
        checks.due("windows", x.count(1), 2);
        checks.due("text", x.count(4), 0);
        checks.due("as any other fault", empty.equals(after(y -> Checks.window(y, "z"))) ? 0 : 1, 0);
        checks.due("as a fault behind what could be read", empty.equals(after(y -> Checks.window(y, "5;come 0 t<9;more 9;z"))) ? 0 : 1, 0);
    }

    private static void orders() {
        due("kind 7", NONE, x -> x.order(7, 1));
        due("v 0", BAD, x -> x.order(1, 0));
        due("order: none ahead of bad", NONE, x -> x.order(7, 0));
        due("order: none ahead of bad, below", NONE, x -> x.order(-1, 10));
        due("row, no order", NONE, x -> x.row(5, 0, 0));
        due("row, place 10", NONE, x -> x.row(2, 10, 0));
        due("row, n 3", BAD, x -> x.row(2, 0, 3));
        due("row, n -2", BAD, x -> x.row(2, 0, -2));
        due("row, it has none", STATE, x -> x.row(0, 0, 0));
        due("row: none (order) ahead of bad", NONE, x -> x.row(5, 0, 3));
        due("row: none (place) ahead of bad", NONE, x -> x.row(2, 10, 3));
        due("row: none (place) ahead of state", NONE, x -> x.row(0, -1, 0));
        due("row: none (place) ahead of bad and state", NONE, x -> x.row(0, 10, -2));
        due("row: bad ahead of state", BAD, x -> x.row(0, 0, 3));
        for (int order : new int[] {0, 1, 3, 4}) {
            due("row of order " + order, STATE, x -> x.row(order, 9, -1));
        }
        due("row told what it tells", 1, x -> x.row(2, 9, 1));
        due("nothing where nothing was", -5, x -> x.row(2, 5, -1));
    }

    private static void hours() {
        due("comer, no order", -1001, x -> x.comer(5, 0, 0));
        due("comer, nobody", -1001, x -> x.comer(0, 30, 0));
        due("comer, no what", -1001, x -> x.comer(0, 0, 6));
        due("served, no order", NONE, x -> x.served(5, 0, 0));
        due("served, nobody", NONE, x -> x.served(0, 30, 0));
        due("served, no what", NONE, x -> x.served(0, 0, 2));
        due("all, no order", NONE, x -> x.all(5, 0));
        due("all, no what", NONE, x -> x.all(0, 8));
        due("stand, no order", NONE, x -> x.stand(5, 0, 0));
        due("stand, no line", NONE, x -> x.stand(0, 2, 0));
        due("stand, minute 100", BAD, x -> x.stand(0, 0, 100));
        due("stand: none (order) ahead of bad", NONE, x -> x.stand(5, 0, 100));
        due("stand: none (line) ahead of bad", NONE, x -> x.stand(0, 2, -1));
    }

    private static void prices() {
        due("price, no order", NONE, x -> x.price(5, 0));
        due("price, no what", NONE, x -> x.price(0, 5));
        due("worse, no order", NONE, x -> x.worse(5));
        due("loss, no order", NONE, x -> x.loss(5, 0));
        due("loss, no sort", NONE, x -> x.loss(0, 2));
        due("slow, no order", -100001, x -> x.slow(5, 1));
        due("slow, n 0", -100002, x -> x.slow(0, 0));
        due("slow, n 10", -100002, x -> x.slow(0, 10));
        due("slow: none ahead of bad", -100001, x -> x.slow(5, 0));
        due("slow: none ahead of bad, above", -100001, x -> x.slow(-1, 10));
        due("early, no order", NONE, x -> x.early(5, 0, 0));
        due("early, no sort", NONE, x -> x.early(0, 2, 0));
        due("early, no what", NONE, x -> x.early(0, 0, 2));
        due("sell, no order", NONE, x -> x.sell(5));
        due("mean, no order", NO, x -> x.mean(5, 0));
        due("mean, no part", NO, x -> x.mean(0, 2));
    }

    private static void acts() {
        due("trace, none", NONE, x -> x.trace(7));
        due("trace, below", NONE, x -> x.trace(-1));
        due("count 6", BAD, x -> x.count(6));
        due("taken, kind 7", BAD, x -> x.taken(0, 7));
        due("taken, no order", NOTHING, x -> x.taken(5, 0));
        due("taken, another kind", CAST, x -> x.taken(0, 1));
        due("taken: bad ahead of nothing", BAD, x -> x.taken(5, 7));
        due("taken: bad ahead of cast", BAD, x -> x.taken(0, -1));
        due("taken: nothing ahead of cast", NOTHING, x -> x.taken(5, 1));
        // an act that there isn't leaves no trace, and changes nothing else
        List<Long> traceless = after(x -> x.act(5, 0, 0));
        Call[] none = {x -> x.act(-1, 0, 7), x -> x.act(0, 3, 7), x -> x.act(0, -1, 7), x -> x.act(5, 3, 7)};
        for (Call call : none) {
            checks.due("no act", call.on(made(state)), 0);
            checks.due("as any other that there isn't", traceless.equals(after(call)) ? 0 : 1, 0);
        }
        PennyQueue x = made(state);
        x.act(5, 0, 0);
        checks.due("no bodies", x.count(5), 0);
        checks.due("no trace", x.trace(0), NONE);
    }

    private static void tapes() {
        due("judge, no tape", NONE, x -> x.judge(6, 0, 1, 0));
        due("judge, no order", NONE, x -> x.judge(0, 0, 1, 5));
        due("judge, n 41", BAD, x -> x.judge(0, 0, 41, 0));
        due("judge, n -1", BAD, x -> x.judge(0, 0, -1, 0));
        due("judge, shorts", CAST, x -> x.judge(1, 0, 1, 0));
        due("judge: none (tape) ahead of bad", NONE, x -> x.judge(6, 0, 41, 0));
        due("judge: none (order) ahead of bad", NONE, x -> x.judge(0, 0, 41, 5));
        due("judge: none (order) ahead of cast", NONE, x -> x.judge(1, 0, 1, 5));
        due("judge: bad ahead of cast", BAD, x -> x.judge(1, 0, 41, 0));
        due("judge: bad ahead of a tape of nothing", BAD, x -> x.judge(5, 0, -1, 0));
        due("tape, none", NONE, x -> x.tape(6, 0, 1));
        due("tape, sort 5", BAD, x -> x.tape(0, 5, 1));
        due("tape, sort -2", BAD, x -> x.tape(0, -2, 1));
        due("tape, n 61", BAD, x -> x.tape(0, 0, 61));
        due("tape, n -1", SIZE, x -> x.tape(0, 0, -1));
        due("tape: none ahead of bad (sort)", NONE, x -> x.tape(6, 5, 1));
        due("tape: none ahead of bad (n)", NONE, x -> x.tape(-1, 0, 61));
        due("tape: none ahead of size", NONE, x -> x.tape(6, 0, -1));
        due("tape: none, of nothing", NONE, x -> x.tape(6, -1, 0));
        due("tape: bad (sort) ahead of size", BAD, x -> x.tape(0, 5, -1));
        due("tape: bad (sort below) ahead of size", BAD, x -> x.tape(0, -2, -1));
        due("item, no tape", NONE, x -> x.item(6, 0, 1));
        due("item, nothing", NOTHING, x -> x.item(5, 0, 1));
        due("item, place 5", PLACE, x -> x.item(0, 5, 1));
        due("item, place -1", PLACE, x -> x.item(0, -1, 1));
        due("item of a row of none", PLACE, x -> x.item(3, 0, 1));
        due("item: none ahead of nothing and place", NONE, x -> x.item(6, -1, 1));
        due("item: nothing ahead of place", NOTHING, x -> x.item(5, -1, 1));
        due("read, no tape", NO, x -> x.read(6, 0));
        due("read, nothing", NO, x -> x.read(5, 0));
        due("read, place 5", NO, x -> x.read(0, 5));
        due("item becomes what it is", 1, x -> x.item(1, 2, 777));
    }

    private static void shifts() {
        due("shift, no tape", NONE, x -> x.shift(6, 0, 0, 0, 1));
        due("shift, no other", NONE, x -> x.shift(0, 0, 6, 0, 1));
        due("shift, nothing", NOTHING, x -> x.shift(5, 0, 0, 0, 1));
        due("shift, nothing there", NOTHING, x -> x.shift(0, 0, 5, 0, 1));
        due("shift, unlike", CAST, x -> x.shift(0, 0, 1, 0, 1));
        due("shift, n below", PLACE, x -> x.shift(0, 0, 0, 0, -1));
        due("shift, i below", PLACE, x -> x.shift(0, -1, 0, 0, 1));
        due("shift, j below", PLACE, x -> x.shift(0, 0, 0, -1, 1));
        due("shift, beyond the end", PLACE, x -> x.shift(0, 4, 0, 0, 2));
        due("shift, beyond the other's end", PLACE, x -> x.shift(0, 0, 0, 4, 2));
        due("shift: none (other) ahead of nothing", NONE, x -> x.shift(5, 0, 6, 0, 1));
        due("shift: none (tape) ahead of nothing", NONE, x -> x.shift(6, 0, 5, 0, 1));
        due("shift: none ahead of place", NONE, x -> x.shift(0, -1, 6, 0, 1));
        due("shift: nothing ahead of cast", NOTHING, x -> x.shift(5, 0, 1, 0, 1));
        due("shift: nothing ahead of place", NOTHING, x -> x.shift(0, 0, 5, -1, 1));
        due("shift: nothing of nothing", NOTHING, x -> x.shift(5, 0, 5, 0, 0));
        due("shift: cast ahead of place", CAST, x -> x.shift(0, 0, 1, 0, -1));
        due("shift: cast of a row of none", CAST, x -> x.shift(0, 0, 3, 0, 0));
        due("shift of none", 0, x -> x.shift(0, 0, 0, 3, 0));
        due("shift to where it was", 5, x -> x.shift(0, 0, 0, 0, 5));
    }

    // ---- calls that only ask

    private static void asks() {
        for (int k = 0; k < 8; k++) {
            int what = k;
            asked("of " + what, x -> x.of(1, what));
            asked("told " + what, x -> x.told(what));
            asked("count " + what, x -> x.count(what));
            asked("trace " + what, x -> x.trace(what));
            asked("taken " + what, x -> x.taken(2, what));
        }
        for (int order = 0; order < 10; order++) {
            int o = order;
            asked("hour of " + o, x -> x.all(o, 4) + x.all(o, 7) + x.comer(o, 1, 4) + x.comer(o, 2, 5) + x.served(o, 1, 1)
                + x.stand(o, 0, 1) + x.stand(o, 1, 99));
            asked("price of " + o, x -> x.price(o, 0) + x.price(o, 4));
            asked("worse, loss of " + o, x -> x.worse(o) + x.loss(o, 1));
            asked("slow of " + o, x -> x.slow(o, 9));
            asked("early of " + o, x -> x.early(o, 1, 0) + x.early(o, 0, 1));
            asked("sell of " + o, x -> x.sell(o));
            asked("mean of " + o, x -> x.mean(o, 0) + x.mean(o, 1));
            asked("judge of " + o, x -> x.judge(0, 0, 5, o));
        }
        asked("read", x -> x.read(2, 59));
    }

    // ---- where nothing more fits

    private static void whenFull() {
        due("a seventh sort", FULL, x -> x.sort(1, 1, 1, 1));
        due("sort: bad (worth) ahead of full", BAD, x -> x.sort(10, 1, 1, 1));
        due("sort: bad (service) ahead of full", BAD, x -> x.sort(1, 100, 1, 1));
        due("sort: bad (purse) ahead of full", BAD, x -> x.sort(1, 1, -1, 1));
        due("sort: bad (time) ahead of full", BAD, x -> x.sort(1, 1, 1, 10));
        for (int n = 1; n <= 4; n++) {
            int bytes = n;
            due("bytes behind a hundred: " + n, FULL, x -> x.feed(0, bytes));
        }
        due("feed: bad ahead of full", BAD, x -> x.feed(0, 5));
        due("feed: bad ahead of full, below", BAD, x -> x.feed(0, -1));
        due("feed of none", 100, x -> x.feed(0, 0));
        due("a seventh window, of a text with a fault", FULL, x -> x.window());
        due("a thirteenth", FULL, x -> x.come(0, 0));
        due("come: none (sort) ahead of full", NONE, x -> x.come(6, 0));
        due("come: none (minute) ahead of full", NONE, x -> x.come(0, 60));
        due("an eleventh order", FULL, x -> x.order(0, 1));
        due("order: none ahead of full", NONE, x -> x.order(7, 1));
        due("order: bad ahead of full", BAD, x -> x.order(0, 10));
        due("order: none ahead of bad and full", NONE, x -> x.order(-1, 0));
        due("early", FULL, x -> x.early(0, 0, 0));
        due("early: none (order) ahead of full", NONE, x -> x.early(10, 0, 0));
        due("early: none (sort) ahead of full", NONE, x -> x.early(0, 6, 0));
        due("early: none (what) ahead of full", NONE, x -> x.early(0, 0, 2));
        due("mean", NO, x -> x.mean(0, 0));
        due("mean below", NO, x -> x.mean(9, 1));
    }

    /** An act changes what trace() and count(5) answer, and nothing else: behind the same act all is the same. */
    private static void actsChangeTheTraceAlone() {
        for (int act = 0; act < 3; act++) {
            for (int order = 0; order < 7; order++) {
                int a = act, o = order;
                List<Long> one = after(x -> x.act(3, 1, 4)), two = after(x -> x.act(o, a, 9) + x.act(3, 1, 4));
                checks.due("act " + a + " of " + o, one.equals(two) ? 0 : 1, 0);
            }
        }
    }
}
