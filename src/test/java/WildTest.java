import java.util.Arrays;
import java.util.Random;

/**
 * Runs of 512 calls with any numbers: none throws, what is refused changes nothing, what is asked changes nothing,
 * the same calls give the same answers.
 */
public final class WildTest {
    private static final Checks checks = new Checks("wild");
    private static final int CALLS = 34, CHANGERS = 15;
    private static final int[] EDGES = {Integer.MIN_VALUE, Integer.MIN_VALUE + 1, -1001, -15, -5, -2, -1, 20, 21, 40, 41, 59, 60,
        61, 99, 100, 101, 255, 1000, Integer.MAX_VALUE - 1, Integer.MAX_VALUE};

    public static void main(String[] args) {
        int runs = args.length > 0 ? Integer.parseInt(args[0]) : 60;
        for (int seed = 0; seed < runs; seed++) {
            long first = run(seed, false);
            checks.due("run " + seed + " again", run(seed, true), first);
        }
        checks.end();
    }

    private static int number(Random r) {
        int sort = r.nextInt(10);
        return sort == 0 ? r.nextInt() : sort == 1 ? EDGES[r.nextInt(EDGES.length)] : sort < 8 ? r.nextInt(8) : r.nextInt(64);
    }

    private static long run(int seed, boolean looked) {
        Random r = new Random(seed);
        PennyQueue x = new PennyQueue();
        long sum = 0;
        for (int k = 0; k < 512; k++) {
            // the early calls mostly make things
            int which = k < 100 || r.nextInt(3) == 0 ? r.nextInt(CHANGERS) : r.nextInt(CALLS);
            int[] a = {number(r), number(r), number(r), number(r), number(r)};
            long v = r.nextLong();
            // a look is some hundred calls by itself, so only some calls are looked at
            boolean look = r.nextInt(16) == 0 && looked;
            long[] before = look ? look(x) : null;
            long got = call(x, which, a, v);
            boolean refused = which >= CHANGERS && which != CALLS - 1 || refusal(which, got);
            if (look && refused) {
                checks.due("run " + seed + " call " + k + ": nothing changed by " + which,
                    Arrays.equals(before, look(x)) ? 1 : 0, 1);
            }
            sum = sum * 31 + got;
        }
        return sum;
    }

    /** Whether an answer of a call that changes things says that it did not. */
    private static boolean refusal(int which, long got) {
        switch (which) {
            case 0, 2, 5, 7, 11:
                return got == -1 || got == -2 || got == -3 || got == -4;
            case 12, 13, 14:
                return got < 0;
            case 10:
                return got == -1 || got == -2 || got == -3;
            case 4:
                return got == -4;
            default:
                return false;
        }
    }

    private static long call(PennyQueue x, int which, int[] a, long v) {
        switch (which) {
            case 0: return x.sort(a[0], a[1], a[2], a[3]);
            case 1: Checks.feed(x, Texts.window(new Random(v)).substring(0, 5)); return x.count(4);
            case 2: return x.feed(a[0], a[1]);
            case 3: return Checks.window(x, Texts.window(new Random(v)));
            case 4: return x.window();
            case 5: return x.odds(a[0], a[1]);
            case 6: return x.clear();
            case 7: return x.come(a[0], a[1]);
            case 8: return x.image();
            case 9: return x.undo();
            case 10: return x.row(a[0], a[1], a[2]);
            case 11: return x.order(a[0], a[1]);
            case 12: return x.tape(a[0], a[1], a[2]);
            case 13: return x.item(a[0], a[1], v);
            case 14: return x.shift(a[0], a[1], a[2], a[3], a[4]);
            default: return asked(x, which, a);
        }
    }

    private static long asked(PennyQueue x, int which, int[] a) {
        switch (which) {
            case 15: return x.of(a[0], a[1]);
            case 16: return x.told(a[0]);
            case 17: return x.comer(a[0], a[1], a[2]);
            case 18: return x.served(a[0], a[1], a[2]);
            case 19: return x.all(a[0], a[1]);
            case 20: return x.stand(a[0], a[1], a[2]);
            case 21: return x.price(a[0], a[1]);
            case 22: return x.worse(a[0]);
            case 23: return x.loss(a[0], a[1]);
            case 24: return x.slow(a[0], a[1]);
            case 25: return x.early(a[0], a[1], a[2]);
            case 26: return x.sell(a[0]);
            case 27: return x.mean(a[0], a[1]);
            case 28: return x.judge(a[0], a[1], a[2], a[3]);
            case 29: return x.trace(a[0]);
            case 30: return x.taken(a[0], a[1]);
            case 31: return x.count(a[0]);
            case 32: return x.read(a[0], a[1]);
            default: return x.act(a[0], a[1], a[2]);
        }
    }

    /** What can be seen of the state. */
    private static long[] look(PennyQueue x) {
        long[] seen = new long[1000];
        int n = 0;
        for (int what = 0; what < 6; what++) {
            seen[n++] = x.count(what);
            seen[n++] = x.told(what);
            for (int sort = 0; sort < 6; sort++) {
                seen[n++] = x.of(sort, what);
            }
        }
        for (int order = 0; order < 10; order++) {
            seen[n++] = x.taken(order, 0);
            for (int what = 0; what < 8; what++) {
                seen[n++] = x.all(order, what);
            }
        }
        for (int i = 0; i < 8; i++) {
            seen[n++] = x.trace(i);
        }
        for (int tape = 0; tape < 6; tape++) {
            for (int i = 0; i < 60; i++) {
                seen[n++] = x.read(tape, i);
            }
        }
        return seen;
    }
}
