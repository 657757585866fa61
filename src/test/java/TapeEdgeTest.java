/** The edges of the rows: where a row ends when it is judged, where items are shifted to, rows of none. */
public final class TapeEdgeTest {
    private static final Checks checks = new Checks("tape edges");
    private static final int[] FAR = {Integer.MIN_VALUE, Integer.MIN_VALUE + 1, -61, -1, 60, 61, Integer.MAX_VALUE - 1, Integer.MAX_VALUE};

    public static void main(String[] args) {
        judgedForty();
        judgedEnds();
        judgedNone();
        judgedCast();
        judgedByWhoIsServed();
        shiftedAll();
        shiftedOver();
        shiftedNone();
        shiftedBeyond();
        checks.end();
    }

    private static void due(String what, long got, long want) {
        checks.due(what, got, want);
    }

    /** So many come and are served as they came, of sort 1 by the text; tape 0 is a row of 60 ones. */
    private static PennyQueue ones(int served) {
        PennyQueue x = Made.of(Made.s(0, 99, 0, 1), Made.s(0, 99, 0, 1));
        x.order(0, 1);
        Checks.window(x, "come 1 t<60;most " + served);
        x.tape(0, 0, 60);
        for (int i = 0; i < 60; i++) {
            x.item(0, i, 1);
        }
        return x;
    }

    private static void judgedForty() {
        PennyQueue x = ones(40);
        due("all forty", x.judge(0, 0, 40, 0), -5);
        due("the last forty of the row", x.judge(0, 20, 40, 0), -5);
        due("thirty-nine of the row", x.judge(0, 21, 40, 0), 139);
        due("thirty-nine, and so many asked", x.judge(0, 21, 39, 0), -5);
        due("41", x.judge(0, 0, 41, 0), -2);
        x.item(0, 39, 0);
        due("the last of forty", x.judge(0, 0, 40, 0), 39);
        due("all but the last", x.judge(0, 0, 39, 0), -5);
        x.item(0, 0, 0);
        due("the first", x.judge(0, 0, 40, 0), 0);
        due("behind the first", x.judge(0, 1, 38, 0), -5);
        // who was not served
        PennyQueue y = ones(39);
        due("the fortieth was not served", y.judge(0, 0, 40, 0), 39);
        due("thirty-nine were", y.judge(0, 0, 39, 0), -5);
        due("the row ends as those served do", y.judge(0, 21, 40, 0), 139);
        due("the row ends ahead of them", y.judge(0, 22, 40, 0), 138);
        due("they end ahead of the row", y.judge(0, 20, 40, 0), 39);
        PennyQueue z = ones(0);
        due("nobody was served", z.judge(0, 0, 40, 0), 0);
        due("nobody, the last place", z.judge(0, 59, 40, 0), 0);
        due("nobody, no such place", z.judge(0, 60, 40, 0), 100);
    }

    private static void judgedEnds() {
        PennyQueue x = ones(40);
        for (int n = 1; n <= 40; n++) {
            x.tape(1, 0, n);
            for (int i = 0; i < n; i++) {
                x.item(1, i, 1);
            }
            due("a row of " + n, x.judge(1, 0, n, 0), -5);
            due("its last", x.judge(1, n - 1, 1, 0), -5);
            due("two of its last", x.judge(1, n - 1, 2, 0), 101);
            due("behind it", x.judge(1, n, 1, 0), 100);
            if (n < 40) {
                due("one more than a row of " + n, x.judge(1, 0, n + 1, 0), 100 + n);
            }
            x = n % 8 == 0 ? ones(40) : x;
        }
        for (int place : FAR) {
            due("place " + place, x.judge(0, place, 1, 0), 100);
            due("place " + place + ", forty", x.judge(0, place, 40, 0), 100);
        }
        for (int place = -40; place < 0; place++) {
            due("a place below 0, though the row begins within", x.judge(0, place, 40, 0), 100);
        }
        // another sort ahead of the row's end
        x.tape(2, 0, 3);
        x.item(2, 0, 1);
        x.item(2, 2, 1);
        due("another one ahead of the end", x.judge(2, 0, 9, 0), 1);
        due("the end ahead of another one", x.judge(2, 2, 9, 0), 101);
    }

    private static void judgedNone() {
        PennyQueue x = ones(3);
        x.tape(1, 0, 0);
        for (int tape = 0; tape < 3; tape++) {
            for (int place : FAR) {
                due("none to look at, tape " + tape + " place " + place, x.judge(tape, place, 0, 0), -5);
            }
            due("none to look at, tape " + tape, x.judge(tape, 0, 0, 0), -5);
        }
        due("a row of none", x.judge(1, 0, 1, 0), 100);
        due("nothing", x.judge(2, 0, 1, 0), 100);
        due("nothing, forty", x.judge(2, 0, 40, 0), 100);
        x.tape(0, -1, 0);
        due("nothing any more", x.judge(0, 0, 3, 0), 100);
    }

    private static void judgedCast() {
        PennyQueue x = ones(3);
        for (int sort = 1; sort < 5; sort++) {
            x.tape(1, sort, 5);
            due("a row of sort " + sort, x.judge(1, 0, 3, 0), -12);
            due("none to look at, of sort " + sort, x.judge(1, 0, 0, 0), -12);
            due("place below 0, of sort " + sort, x.judge(1, -1, 3, 0), -12);
            x.tape(1, sort, 0);
            due("a row of none of sort " + sort, x.judge(1, 0, 3, 0), -12);
        }
        x.tape(1, 0, 5);
        for (int item : new int[] {2, 5, 6, 127, 128, 255, -1}) {
            x.item(1, 0, item);
            due("no sort of theirs: " + item, x.judge(1, 0, 3, 0), 0);
        }
        x.item(1, 0, 257);
        due("the lowest bits of it are 1", x.judge(1, 0, 1, 0), -5);
    }

    private static void judgedByWhoIsServed() {
        // served are 1 1 0 0 by first, 0 0 1 1 by order
        PennyQueue x = Made.of(Made.s(0, 99, 0, 9), Made.s(9, 99, 20, 1), Made.s(9, 0, 0, 1));
        x.order(0, 1);
        x.order(1, 1);
        Made.come(x, 0, 0, 0, 2, 1, 1);
        x.sort(0, 0, 0, 1);
        x.tape(0, 0, 6);
        x.item(0, 2, 1);
        x.item(0, 3, 1);
        // by order 1 would wait 18 at 9, and goes home with 2
        due("by order", x.judge(0, 0, 2, 0), -5);
        due("two are served", x.judge(0, 0, 3, 0), 2);
        checks.dues("served by first", Made.served(x, 1, 0), 2, 3, 4, 0, 1);
        x.item(0, 1, 1);
        x.item(0, 0, 2);
        x.item(0, 3, 0);
        due("by first", x.judge(0, 0, 5, 1), -5);
        due("one more", x.judge(0, 0, 6, 1), 5);
    }

    // ---- shift

    private static void shiftedAll() {
        for (int sort = 0; sort < 5; sort++) {
            PennyQueue x = new PennyQueue();
            x.tape(0, sort, 60);
            x.tape(5, sort, 60);
            for (int i = 0; i < 60; i++) {
                x.item(0, i, i % 3);
            }
            due("sixty", x.shift(0, 0, 5, 0, 60), 60);
            for (int i = 0; i < 60; i++) {
                due("item " + i + " of sort " + sort, x.read(5, i), sort == 4 ? Math.min(1, i % 3) : i % 3);
                due("it stays where it was", x.read(0, i), sort == 4 ? Math.min(1, i % 3) : i % 3);
            }
            due("61", x.shift(0, 0, 5, 0, 61), -13);
        }
    }

    /** Within one row, over itself, by each distance: as they all were before. */
    private static void shiftedOver() {
        for (int n = 0; n <= 6; n++) {
            PennyQueue x = new PennyQueue();
            for (int i = 0; i <= 6 - n; i++) {
                for (int j = 0; j <= 6 - n; j++) {
                    x.tape(0, 2, 6);
                    long[] want = new long[6];
                    for (int k = 0; k < 6; k++) {
                        x.item(0, k, k + 1);
                        want[k] = k >= j && k < j + n ? k - j + i + 1 : k + 1;
                    }
                    due("shift", x.shift(0, i, 0, j, n), n);
                    for (int k = 0; k < 6; k++) {
                        due(n + " from " + i + " to " + j + ", item " + k, x.read(0, k), want[k]);
                    }
                }
                x = new PennyQueue();
            }
        }
    }

    private static void shiftedNone() {
        PennyQueue x = new PennyQueue();
        x.tape(0, 1, 0);
        x.tape(1, 1, 3);
        due("none of none", x.shift(0, 0, 0, 0, 0), 0);
        due("none of none to three", x.shift(0, 0, 1, 3, 0), 0);
        due("none of three to none", x.shift(1, 3, 0, 0, 0), 0);
        due("one of none", x.shift(0, 0, 1, 0, 1), -13);
        due("one to none", x.shift(1, 0, 0, 0, 1), -13);
        due("none, behind the end", x.shift(1, 4, 0, 0, 0), -13);
        due("none, to behind the end", x.shift(1, 0, 0, 1, 0), -13);
        due("none, below 0", x.shift(1, -1, 0, 0, 0), -13);
        due("none, to below 0", x.shift(1, 0, 0, -1, 0), -13);
    }

    private static void shiftedBeyond() {
        PennyQueue x = new PennyQueue();
        x.tape(0, 3, 5);
        x.tape(1, 3, 3);
        for (int i = 0; i < 5; i++) {
            x.item(0, i, i + 1);
        }
        due("to the very ends", x.shift(0, 2, 1, 0, 3), 3);
        due("beyond the other's", x.shift(0, 0, 1, 0, 4), -13);
        due("beyond the other's from 1", x.shift(0, 0, 1, 1, 3), -13);
        due("beyond its own", x.shift(0, 3, 1, 0, 3), -13);
        due("beyond both", x.shift(0, 5, 1, 3, 1), -13);
        for (int far : FAR) {
            due("from " + far, x.shift(0, far, 1, 0, 1), -13);
            due("to " + far, x.shift(0, 0, 1, far, 1), -13);
            due("n " + far, x.shift(0, 0, 1, 0, far), -13);
            due("n and from " + far, x.shift(0, far, 1, 0, far), -13);
            due("n and to " + far, x.shift(0, 0, 1, far, far), -13);
            due("all " + far, x.shift(0, far, 1, far, far), -13);
        }
        for (int i = 0; i < 3; i++) {
            due("nothing changed", x.read(1, i), i + 3);
        }
    }
}
