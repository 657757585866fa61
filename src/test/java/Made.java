/** Queues made in few words, and rows of what they answer. */
final class Made {
    private Made() { }

    /** A sort: a minute's worth, service, purse, time. */
    static int[] s(int worth, int service, int purse, int time) {
        return new int[] {worth, service, purse, time};
    }

    /** A queue with these sorts. */
    static PennyQueue of(int[]... sorts) {
        PennyQueue x = new PennyQueue();
        for (int[] sort : sorts) {
            x.sort(sort[0], sort[1], sort[2], sort[3]);
        }
        return x;
    }

    /** Tells by hand one of each of the sorts for a minute. */
    static PennyQueue come(PennyQueue x, int minute, int... sorts) {
        for (int sort : sorts) {
            x.come(sort, minute);
        }
        return x;
    }

    /** An order of each kind with a v, numbered as its kind. */
    static PennyQueue allKinds(PennyQueue x, int v) {
        for (int kind = 0; kind < 7; kind++) {
            x.order(kind, v);
        }
        return x;
    }

    static long[] alls(PennyQueue x, int order) {
        long[] got = new long[8];
        for (int what = 0; what < 8; what++) {
            got[what] = x.all(order, what);
        }
        return got;
    }

    static long[] comers(PennyQueue x, int order, int what) {
        long[] got = new long[x.all(order, 0)];
        for (int i = 0; i < got.length; i++) {
            got[i] = x.comer(order, i, what);
        }
        return got;
    }

    static long[] served(PennyQueue x, int order, int what) {
        long[] got = new long[x.all(order, 1)];
        for (int i = 0; i < got.length; i++) {
            got[i] = x.served(order, i, what);
        }
        return got;
    }
}
