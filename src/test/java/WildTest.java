import java.util.Random;

/**
 * Runs of 512 calls with any numbers: none throws, what is refused changes nothing, what is asked changes nothing,
 * the same calls give the same answers.
 */
public final class WildTest {
    private static final Checks checks = new Checks("wild");
    /** Which calls there are: first those that change things; the last is an act. */
    private static final int CALLS = 34, CHANGERS = 15;
    /** How many calls a step may be: a text by fours, and its window. */
    private static final int MOST_CALLS = 26;
    private static final int[] EDGES = {Integer.MIN_VALUE, Integer.MIN_VALUE + 1, -1001, -15, -5, -2, -1, 20, 21, 40, 41, 59, 60,
        61, 99, 100, 101, 255, 1000, Integer.MAX_VALUE - 1, Integer.MAX_VALUE};

    private record Step(int which, long answer, int calls) { }

    public static void main(String[] args) {
        int runs = args.length > 0 ? Integer.parseInt(args[0]) : 200;
        for (int seed = 0; seed < runs; seed++) {
            checks.due("run " + seed + " again", run(seed), run(seed));
            for (int steps = seed % 16; steps < 128; steps += 16) {
                looked(seed, steps);
            }
        }
        checks.end();
    }

    private static int number(Random r) {
        int sort = r.nextInt(10);
        return sort == 0 ? r.nextInt() : sort == 1 ? EDGES[r.nextInt(EDGES.length)] : sort < 8 ? r.nextInt(8) : r.nextInt(64);
    }

    private static long run(int seed) {
        Random r = new Random(seed);
        PennyQueue x = new PennyQueue();
        long sum = 0;
        int steps = 0;
        for (int calls = 0; calls <= 512 - MOST_CALLS; steps++) {
            Step step = step(x, r, steps);
            calls += step.calls;
            sum = sum * 31 + step.answer;
        }
        return sum;
    }

    private static Step step(PennyQueue x, Random r, int steps) {
        // the early steps mostly make things
        int which = steps < 60 || r.nextInt(3) == 0 ? r.nextInt(CHANGERS) : r.nextInt(CALLS);
        int[] a = {number(r), number(r), number(r), number(r), number(r)};
        long v = r.nextLong();
        if (which == 3) {
            String text = Texts.window(new Random(v));
            return new Step(which, Checks.windowByFours(x, text), 1 + (text.length() + 3) / 4);
        }
        return new Step(which, call(x, which, a, v), 1);
    }

    private static PennyQueue after(int seed, int steps) {
        Random r = new Random(seed);
        PennyQueue x = new PennyQueue();
        for (int k = 0; k < steps; k++) {
            step(x, r, k);
        }
        return x;
    }

    /** If the step behind so many is refused or only asks, later calls answer as if it had not been. */
    private static void looked(int seed, int steps) {
        Random r = new Random(seed);
        PennyQueue x = new PennyQueue();
        int calls = 0;
        for (int k = 0; k < steps; k++) {
            calls += step(x, r, k).calls;
        }
        Step last = step(x, r, steps);
        boolean refused = last.which >= CHANGERS && last.which != CALLS - 1 || refusal(last.which, last.answer);
        if (refused && calls <= 512 - MOST_CALLS - Look.MOST_CALLS) {
            checks.due("run " + seed + " step " + steps + ": nothing changed by " + last.which,
                Look.at(() -> after(seed, steps)).equals(Look.at(() -> after(seed, steps + 1))) ? 1 : 0, 1);
        }
    }

    /** Whether an answer of a call that changes things says that it did not. */
    private static boolean refusal(int which, long got) {
        switch (which) {
            case 0, 2, 5, 7, 11:
                return got == -1 || got == -2 || got == -3 || got == -4;
            case 12, 13, 14:
                return got < 0;
            case 10:
                return got == -1 || got == -2 || got == -3;
            case 4:
                return got == -4;
            case 9:
                return got == -3;
            default:
                return false;
        }
    }

    private static long call(PennyQueue x, int which, int[] a, long v) {
        switch (which) {
            case 0: return x.sort(a[0], a[1], a[2], a[3]);
            case 1: return Checks.four(x, Texts.window(new Random(v)), 0);
            case 2: return x.feed(a[0], a[1]);
            case 4: return x.window();
            case 5: return x.odds(a[0], a[1]);
            case 6: return x.clear();
            case 7: return x.come(a[0], a[1]);
            case 8: return x.image();
            case 9: return x.undo();
            case 10: return x.row(a[0], a[1], a[2]);
            case 11: return x.order(a[0], a[1]);
            case 12: return x.tape(a[0], a[1], a[2]);
            case 13: return x.item(a[0], a[1], v);
            case 14: return x.shift(a[0], a[1], a[2], a[3], a[4]);
            default: return asked(x, which, a);
        }
    }

    private static long asked(PennyQueue x, int which, int[] a) {
        switch (which) {
            case 15: return x.of(a[0], a[1]);
            case 16: return x.told(a[0]);
            case 17: return x.comer(a[0], a[1], a[2]);
            case 18: return x.served(a[0], a[1], a[2]);
            case 19: return x.all(a[0], a[1]);
            case 20: return x.stand(a[0], a[1], a[2]);
            case 21: return x.price(a[0], a[1]);
            case 22: return x.worse(a[0]);
            case 23: return x.loss(a[0], a[1]);
            case 24: return x.slow(a[0], a[1]);
            case 25: return x.early(a[0], a[1], a[2]);
            case 26: return x.sell(a[0]);
            case 27: return x.mean(a[0], a[1]);
            case 28: return x.judge(a[0], a[1], a[2], a[3]);
            case 29: return x.trace(a[0]);
            case 30: return x.taken(a[0], a[1]);
            case 31: return x.count(a[0]);
            case 32: return x.read(a[0], a[1]);
            default: return x.act(a[0], a[1], a[2]);
        }
    }
}
