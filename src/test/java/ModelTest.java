import java.util.Random;

/** Random days (of set seeds): every asking call against the Model. */
public final class ModelTest {
    private static final Checks checks = new Checks("model");

    public static void main(String[] args) {
        int days = args.length > 0 ? Integer.parseInt(args[0]) : 150;
        for (int seed = 0; seed < days; seed++) {
            day(new Random(seed), seed);
        }
        checks.end();
    }

    private static int upTo(Random r, int n) {
        return r.nextInt(n + 1);
    }

    private static void day(Random r, int seed) {
        Model m = new Model();
        int sorts = 1 + r.nextInt(6);
        for (int s = 0; s < sorts; s++) {
            m.sorts.add(new Model.Sort(upTo(r, 9), upTo(r, 99), upTo(r, 20), 1 + r.nextInt(9)));
            m.odds[s] = upTo(r, 10);
        }
        if (r.nextInt(12) > 0) {
            m.text = Texts.window(r);
        }
        int hands = r.nextInt(3) == 0 ? upTo(r, 12) : upTo(r, 5);
        int last = r.nextBoolean() ? 59 : 8;
        for (int k = 0; k < hands; k++) {
            m.hands.add(new Model.Hand(r.nextInt(sorts), upTo(r, last), false));
        }
        for (int kind = 0; kind < 7; kind++) {
            Model.Order order = new Model.Order(kind, 1 + r.nextInt(9), new int[10]);
            for (int i = 0; i < 10; i++) {
                order.row()[i] = upTo(r, 3) - 1;
            }
            Asked x = new Asked(m, order);
            hour(x, m, order, "day " + seed + " kind " + kind + ": ");
            prices(x, m, order, "day " + seed + " kind " + kind + ": ", r);
        }
    }

    /** A queue of the day with the order as its second one, made anew before it has been used for 512 calls. */
    private static final class Asked {
        private static final int ORDER = 1, CALLS = 512 - 160;
        private final Model m;
        private final Model.Order order;
        private PennyQueue x;
        private int calls;

        Asked(Model m, Model.Order order) {
            this.m = m;
            this.order = order;
        }

        PennyQueue next() {
            if (x == null || calls == CALLS) {
                x = made();
                calls = 0;
            }
            calls++;
            return x;
        }

        private PennyQueue made() {
            PennyQueue made = new PennyQueue();
            for (int s = 0; s < m.sorts.size(); s++) {
                Model.Sort sort = m.sorts.get(s);
                made.sort(sort.worth(), sort.service(), sort.purse(), sort.time());
                made.odds(s, m.odds[s]);
            }
            if (!m.text.isEmpty()) {
                checks.due("window " + m.text, Checks.window(made, m.text), 0);
            }
            for (Model.Hand h : m.hands) {
                made.come(h.sort(), h.minute());
            }
            made.order(0, 1);
            made.order(order.kind(), order.v());
            for (int i = 0; i < 10; i++) {
                made.row(ORDER, i, order.row()[i]);
            }
            return made;
        }
    }

    private static void hour(Asked x, Model m, Model.Order order, String day) {
        int k = Asked.ORDER;
        Model.Hour h = m.hour(order);
        int free = h.many(0);
        int[] all = {h.comers.size(), h.served.size(), free, h.many(2), h.lost(), h.pence(), h.gone,
            free == 0 ? 0 : h.pence() / free};
        for (int what = 0; what < 8; what++) {
            checks.due(day + "all " + what, x.next().all(k, what), all[what]);
        }
        for (int i = 0; i < h.comers.size(); i++) {
            Model.Comer c = h.comers.get(i);
            int[] of = {c.sort, c.minute, c.line, c.paid, h.waits(c), c.line == 2 ? -5 : h.served.indexOf(c)};
            for (int what = 0; what < 6; what++) {
                checks.due(day + "comer " + i + " " + what, x.next().comer(k, i, what), of[what]);
            }
        }
        checks.due(day + "no more comers", x.next().comer(k, h.comers.size(), 0), -1001);
        for (int i = 0; i < h.served.size(); i++) {
            Model.Comer c = h.served.get(i);
            checks.due(day + "served " + i, x.next().served(k, i, 0), h.comers.indexOf(c));
            checks.due(day + "served when " + i, x.next().served(k, i, 1), c.start);
        }
        checks.due(day + "no more served", x.next().served(k, h.served.size(), 0), -1);
        for (int minute = 0; minute < 100; minute++) {
            checks.due(day + "free at " + minute, x.next().stand(k, 0, minute), h.stood.get(minute)[0]);
            checks.due(day + "paying at " + minute, x.next().stand(k, 1, minute), h.stood.get(minute)[1]);
        }
    }

    private static void prices(Asked x, Model m, Model.Order order, String day, Random r) {
        int k = Asked.ORDER;
        int[] prices = m.prices(order);
        for (int what = 0; what < 5; what++) {
            checks.due(day + "price " + what, x.next().price(k, what), prices[what]);
        }
        checks.due(day + "worse", x.next().worse(k), m.worse(order));
        Model.Hour h = m.hour(order);
        for (int s = 0; s < m.sorts.size(); s++) {
            checks.due(day + "loss " + s, x.next().loss(k, s), h.loss(s));
        }
        for (int n = 1; n < 10; n += 4) {
            checks.due(day + "slow " + n, x.next().slow(k, n), m.slow(order, n));
        }
        int sort = r.nextInt(m.sorts.size());
        int[] early = m.hands.size() < 12 ? m.early(order, sort) : new int[] {-4, -4};
        checks.due(day + "early", x.next().early(k, sort, 0), early[0]);
        checks.due(day + "early waits", x.next().early(k, sort, 1), early[1]);
        checks.due(day + "sell", x.next().sell(k), h.sell());
        if (m.hands.size() <= 6) {
            long[] mean = m.mean(order);
            checks.due(day + "mean above", x.next().mean(k, 0), mean[0]);
            checks.due(day + "mean below", x.next().mean(k, 1), mean[1]);
        } else {
            checks.due(day + "mean of too many", x.next().mean(k, 0), PennyQueue.NO);
        }
    }
}
