import java.util.ArrayList;
import java.util.List;
import java.util.function.Supplier;

/**
 * All that later calls can tell of a queue. Each part looks at a queue made anew, since some of the looking changes
 * it, and since a queue is used for at most 512 calls.
 */
final class Look {
    static final int MOST_CALLS = 200;

    private final Supplier<PennyQueue> made;
    private final List<Long> seen = new ArrayList<>();

    private Look(Supplier<PennyQueue> made) {
        this.made = made;
    }

    static List<Long> at(Supplier<PennyQueue> made) {
        Look look = new Look(made);
        look.counts(made.get());
        look.trace(made.get());
        look.hours(made.get(), 0, 5);
        look.hours(made.get(), 5, 10);
        look.rows(made.get());
        look.tapes();
        look.sortsOfTapes(made.get());
        look.text(made.get());
        look.image();
        return look.seen;
    }

    private void add(long answer) {
        seen.add(answer);
    }

    private void counts(PennyQueue x) {
        for (int what = 0; what < 5; what++) {
            add(x.count(what));
            add(x.told(what));
            for (int sort = 0; sort < 6; sort++) {
                add(x.of(sort, what));
            }
        }
    }

    private void trace(PennyQueue x) {
        add(x.count(5));
        for (int i = 0; i < 8; i++) {
            add(x.trace(i));
        }
        for (int order = 0; order < 10; order++) {
            add(x.taken(order, 0));
            // which v it has
            add(x.act(order, 1, 0));
        }
    }

    private void hours(PennyQueue x, int from, int till) {
        for (int order = from; order < till; order++) {
            add(x.all(order, 0));
            add(x.all(order, 4));
            add(x.all(order, 5));
            add(x.all(order, 6));
            for (int i = 0; i < 13; i++) {
                add(x.comer(order, i, 0));
                add(x.comer(order, i, 1));
            }
        }
    }

    private void rows(PennyQueue x) {
        for (int order = 0; order < 10; order++) {
            for (int i = 0; i < 10; i++) {
                add(x.row(order, i, -1));
            }
        }
    }

    private void tapes() {
        for (int half = 0; half < 2; half++) {
            PennyQueue x = made.get();
            for (int tape = 3 * half; tape < 3 * half + 3; tape++) {
                for (int i = 0; i < 60; i++) {
                    add(x.read(tape, i));
                }
                // whether it holds a row, and of which sort
                add(x.item(tape, -1, 0));
                add(x.item(tape, 0, 0x123456789abcdef1L));
                add(x.read(tape, 0));
            }
        }
    }

    /** Of which sort rows are, those of none, too: by what can be shifted to a row of each sort. */
    private void sortsOfTapes(PennyQueue x) {
        for (int sort = 0; sort < 5; sort++) {
            x.tape(5, sort, 0);
            for (int tape = 0; tape < 5; tape++) {
                add(x.shift(tape, 0, 5, 0, 0));
            }
        }
    }

    /** What is behind THE TEXT is seen by what it becomes with something more. */
    private void text(PennyQueue x) {
        add(x.feed('7', 1));
        add(x.window());
        add(x.count(1));
        add(x.count(4));
        for (int what = 0; what < 3; what++) {
            add(x.told(what));
        }
        add(x.all(0, 0));
    }

    private void image() {
        PennyQueue x = made.get();
        add(x.undo());
        counts(x);
        for (int from = 0; from < 10; from += 5) {
            PennyQueue y = made.get();
            y.undo();
            hours(y, from, from + 5);
        }
    }
}
