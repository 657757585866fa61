import java.util.Random;

/** Random days (of set seeds): every asking call against the Model. */
public final class ModelTest {
    private static final Checks checks = new Checks("model");

    public static void main(String[] args) {
        int days = args.length > 0 ? Integer.parseInt(args[0]) : 150;
        for (int seed = 0; seed < days; seed++) {
            day(new Random(seed), seed);
        }
        checks.end();
    }

    private static int upTo(Random r, int n) {
        return r.nextInt(n + 1);
    }

    private static void day(Random r, int seed) {
        PennyQueue x = new PennyQueue();
        Model m = new Model();
        int sorts = 1 + r.nextInt(6);
        for (int s = 0; s < sorts; s++) {
            Model.Sort sort = new Model.Sort(upTo(r, 9), upTo(r, 99), upTo(r, 20), 1 + r.nextInt(9));
            m.sorts.add(sort);
            x.sort(sort.worth(), sort.service(), sort.purse(), sort.time());
            m.odds[s] = upTo(r, 10);
            x.odds(s, m.odds[s]);
        }
        if (r.nextInt(12) > 0) {
            m.text = Texts.window(r);
            checks.due("day " + seed + ": window " + m.text, Checks.window(x, m.text), 0);
        }
        int hands = r.nextInt(3) == 0 ? upTo(r, 12) : upTo(r, 5);
        int last = r.nextBoolean() ? 59 : 8;
        for (int k = 0; k < hands; k++) {
            Model.Hand h = new Model.Hand(r.nextInt(sorts), upTo(r, last), false);
            m.hands.add(h);
            x.come(h.sort(), h.minute());
        }
        for (int kind = 0; kind < 7; kind++) {
            Model.Order order = new Model.Order(kind, 1 + r.nextInt(9), new int[10]);
            x.order(kind, order.v());
            for (int i = 0; i < 10; i++) {
                order.row()[i] = upTo(r, 3) - 1;
                x.row(kind, i, order.row()[i]);
            }
            hour(x, m, order, "day " + seed + " kind " + kind + ": ");
            prices(x, m, order, "day " + seed + " kind " + kind + ": ", r);
        }
    }

    private static void hour(PennyQueue x, Model m, Model.Order order, String day) {
        int k = order.kind();
        Model.Hour h = m.hour(order);
        int free = h.many(0);
        int[] all = {h.comers.size(), h.served.size(), free, h.many(2), h.lost(), h.pence(), h.gone,
            free == 0 ? 0 : h.pence() / free};
        for (int what = 0; what < 8; what++) {
            checks.due(day + "all " + what, x.all(k, what), all[what]);
        }
        for (int i = 0; i < h.comers.size(); i++) {
            Model.Comer c = h.comers.get(i);
            int[] of = {c.sort, c.minute, c.line, c.paid, h.waits(c), c.line == 2 ? -5 : h.served.indexOf(c)};
            for (int what = 0; what < 6; what++) {
                checks.due(day + "comer " + i + " " + what, x.comer(k, i, what), of[what]);
            }
        }
        checks.due(day + "no more comers", x.comer(k, h.comers.size(), 0), -1001);
        for (int i = 0; i < h.served.size(); i++) {
            Model.Comer c = h.served.get(i);
            checks.due(day + "served " + i, x.served(k, i, 0), h.comers.indexOf(c));
            checks.due(day + "served when " + i, x.served(k, i, 1), c.start);
        }
        checks.due(day + "no more served", x.served(k, h.served.size(), 0), -1);
        for (int minute = 0; minute < 100; minute++) {
            checks.due(day + "free at " + minute, x.stand(k, 0, minute), h.stood.get(minute)[0]);
            checks.due(day + "paying at " + minute, x.stand(k, 1, minute), h.stood.get(minute)[1]);
        }
    }

    private static void prices(PennyQueue x, Model m, Model.Order order, String day, Random r) {
        int k = order.kind();
        int[] prices = m.prices(order);
        for (int what = 0; what < 5; what++) {
            checks.due(day + "price " + what, x.price(k, what), prices[what]);
        }
        checks.due(day + "worse", x.worse(k), m.worse(order));
        Model.Hour h = m.hour(order);
        for (int s = 0; s < m.sorts.size(); s++) {
            checks.due(day + "loss " + s, x.loss(k, s), h.loss(s));
        }
        for (int n = 1; n < 10; n += 4) {
            checks.due(day + "slow " + n, x.slow(k, n), m.slow(order, n));
        }
        int sort = r.nextInt(m.sorts.size());
        int[] early = m.hands.size() < 12 ? m.early(order, sort) : new int[] {-4, -4};
        checks.due(day + "early", x.early(k, sort, 0), early[0]);
        checks.due(day + "early waits", x.early(k, sort, 1), early[1]);
        checks.due(day + "sell", x.sell(k), h.sell());
        if (m.hands.size() <= 6) {
            long[] mean = m.mean(order);
            checks.due(day + "mean above", x.mean(k, 0), mean[0]);
            checks.due(day + "mean below", x.mean(k, 1), mean[1]);
        } else {
            checks.due(day + "mean of too many", x.mean(k, 0), PennyQueue.NO);
        }
    }
}
