import java.math.BigInteger;
import java.util.ArrayDeque;
import java.util.ArrayList;
import java.util.Deque;
import java.util.List;

/** The document's hour told a second time, in the plainest way: minute by minute, with lists, the text read anew. */
final class Model {
    record Sort(int worth, int service, int purse, int time) { }

    record Hand(int sort, int minute, boolean marked) { }

    record Order(int kind, int v, int[] row) { }

    static final class Comer {
        int sort;
        int minute;
        int line;
        int paid;
        int start = -1;
        boolean marked;
    }

    final List<Sort> sorts = new ArrayList<>();
    final List<Hand> hands = new ArrayList<>();
    final int[] odds = {10, 10, 10, 10, 10, 10};
    String text = "";

    final class Hour {
        final List<Comer> comers = new ArrayList<>();
        final List<Comer> served = new ArrayList<>();
        final List<int[]> stood = new ArrayList<>();
        private final Deque<Comer> free = new ArrayDeque<>();
        private final Deque<Comer> paying = new ArrayDeque<>();
        private final Order order;
        private final int price;
        private final int more;
        private int needs;
        private int inRow;
        int gone;

        Hour(Order order, List<Hand> by, int price, int more) {
            this.order = order;
            this.price = price;
            this.more = more;
            for (int m = 0; m < 2500; m++) {
                if (m < 60) {
                    arrivals(by, m);
                }
                if (needs == 0) {
                    Comer next = takeNext();
                    if (next != null) {
                        next.start = m;
                        needs = time(next);
                        served.add(next);
                        gone = m + needs;
                    }
                }
                stood.add(new int[] {free.size(), paying.size()});
                if (needs > 0) {
                    needs--;
                }
            }
        }

        private int time(Comer c) {
            return sorts.get(c.sort).time + more;
        }

        private void arrivals(List<Hand> by, int m) {
            for (Hand h : by) {
                if (h.minute == m) {
                    arrive(h.sort, m, h.marked);
                }
            }
            for (int s = 0; s < sorts.size(); s++) {
                boolean wants = false;
                for (String clause : text.split(";")) {
                    if (clause.startsWith("come " + s + " ")) {
                        wants |= holds(clause.substring(7), m, paying.size(), free.size(), comers.size());
                    }
                }
                if (wants) {
                    arrive(s, m, false);
                }
            }
        }

        private void arrive(int s, int m, boolean marked) {
            if (comers.size() >= told("most", 30, 40)) {
                return;
            }
            Sort sort = sorts.get(s);
            int kind = order.kind;
            int asked = kind == 3 ? price + order.v * paying.size() : price;
            if (kind == 4 && sort.purse < asked) {
                asked = 0;
            }
            int inFree = 0, inPaying = 0;
            for (Comer c : free) {
                inFree += time(c);
            }
            for (Comer c : paying) {
                inPaying += time(c);
            }
            int costFree = sort.worth * (needs + inFree + inPaying);
            int costPaying = asked + sort.worth * (kind == 0 || kind == 5 ? needs + inFree + inPaying : needs + inPaying);
            int line = asked <= sort.purse && costPaying < costFree ? 1 : 0;
            if ((line == 1 ? costPaying : costFree) > sort.service) {
                line = 2;
            }
            if (kind == 5 && free.size() + paying.size() >= order.v) {
                line = 2;
            }
            if (kind == 6 && comers.size() < 10) {
                int t = order.row[comers.size()];
                if (t == 0 || t == 2 || t == 1 && asked <= sort.purse) {
                    line = t;
                }
            }
            Comer c = new Comer();
            c.sort = s;
            c.minute = m;
            c.line = line;
            c.paid = line == 1 ? asked : 0;
            c.marked = marked;
            comers.add(c);
            if (line == 0) {
                free.add(c);
            } else if (line == 1) {
                paying.add(c);
            }
        }

        private Comer takeNext() {
            if (free.isEmpty() && paying.isEmpty()) {
                return null;
            }
            boolean fromPaying;
            switch (order.kind) {
                case 0, 5 -> fromPaying = !paying.isEmpty()
                    && (free.isEmpty() || comers.indexOf(paying.peek()) < comers.indexOf(free.peek()));
                case 2, 4 -> fromPaying = !paying.isEmpty() && (inRow < order.v || free.isEmpty());
                default -> fromPaying = !paying.isEmpty();
            }
            inRow = fromPaying ? inRow + 1 : 0;
            return fromPaying ? paying.poll() : free.poll();
        }

        int waits(Comer c) {
            return c.line == 2 ? -5 : c.start - c.minute;
        }

        int lost() {
            return served.stream().mapToInt(c -> sorts.get(c.sort).worth * (c.start - c.minute)).sum();
        }

        int pence() {
            return comers.stream().mapToInt(c -> c.paid).sum();
        }

        int loss(int s) {
            return comers.stream().filter(c -> c.sort == s)
                .mapToInt(c -> c.line == 2 ? sorts.get(s).service : sorts.get(s).worth * waits(c) + c.paid).sum();
        }

        int many(int line) {
            return (int) comers.stream().filter(c -> c.line == line).count();
        }

        int sell() {
            int n = 0;
            for (int k = 0; k + 1 < served.size(); k++) {
                Comer a = served.get(k), b = served.get(k + 1);
                if (a.sort != b.sort && sorts.get(b.sort).worth * time(a) > sorts.get(a.sort).worth * time(b)) {
                    n++;
                }
            }
            return n;
        }
    }

    /** The last n told behind a word. */
    int told(String word, int without, int most) {
        int n = without;
        for (String clause : text.split(";")) {
            if (clause.startsWith(word + " ")) {
                n = Math.min(most, Integer.parseInt(clause.substring(word.length() + 1)));
            }
        }
        return n;
    }

    int price() {
        return told("price", 0, 20);
    }

    int more() {
        return told("more", 0, 20);
    }

    /** Splits at the sign outside all brackets. */
    private static List<String> parts(String e, char sign) {
        List<String> found = new ArrayList<>();
        int depth = 0, from = 0;
        for (int i = 0; i < e.length(); i++) {
            char c = e.charAt(i);
            depth += c == '(' ? 1 : c == ')' ? -1 : 0;
            if (c == sign && depth == 0) {
                found.add(e.substring(from, i));
                from = i + 1;
            }
        }
        found.add(e.substring(from));
        return found;
    }

    static boolean holds(String e, int t, int l, int f, int n) {
        List<String> terms = parts(e, '|');
        if (terms.size() > 1) {
            return terms.stream().anyMatch(x -> holds(x, t, l, f, n));
        }
        List<String> factors = parts(e, '&');
        if (factors.size() > 1) {
            return factors.stream().allMatch(x -> holds(x, t, l, f, n));
        }
        if (e.charAt(0) == '!') {
            return !holds(e.substring(1), t, l, f, n);
        }
        if (e.charAt(0) == '(') {
            return holds(e.substring(1, e.length() - 1), t, l, f, n);
        }
        int value = switch (e.charAt(0)) {
            case 't' -> t;
            case 'l' -> l;
            case 'f' -> f;
            default -> n;
        };
        int number = Integer.parseInt(e.substring(2));
        return switch (e.charAt(1)) {
            case '<' -> value < number;
            case '=' -> value == number;
            default -> value > number;
        };
    }

    Hour hour(Order order) {
        return new Hour(order, hands, price(), more());
    }

    int[] prices(Order order) {
        int[] lost = new int[21], pence = new int[21];
        for (int n = 0; n <= 20; n++) {
            Hour h = new Hour(order, hands, n, more());
            lost[n] = h.lost();
            pence[n] = h.pence();
        }
        int least = 0, most = 0, none = -5;
        for (int n = 1; n <= 20; n++) {
            least = lost[n] < lost[least] ? n : least;
            most = pence[n] > pence[most] ? n : most;
            none = none == -5 && pence[n] == 0 ? n : none;
        }
        return new int[] {least, most, none, lost[least], pence[most]};
    }

    int worse(Order order) {
        Hour plain = new Hour(new Order(0, 1, null), hands, 0, more()), by = hour(order);
        int bits = 0;
        for (int s = 0; s < sorts.size(); s++) {
            bits += by.loss(s) > plain.loss(s) ? 1 << s : 0;
        }
        return bits;
    }

    int slow(Order order, int n) {
        return new Hour(order, hands, price(), more() + n).pence() - hour(order).pence();
    }

    int[] early(Order order, int sort) {
        int[] best = {-5, -5};
        for (int m = 59; m >= 0; m--) {
            List<Hand> with = new ArrayList<>(hands);
            with.add(new Hand(sort, m, true));
            Hour h = new Hour(order, with, price(), more());
            for (Comer c : h.comers) {
                if (c.marked && c.line != 2 && (best[0] < 0 || h.waits(c) <= best[1])) {
                    best = new int[] {m, h.waits(c)};
                }
            }
        }
        return best;
    }

    long[] mean(Order order) {
        BigInteger above = mean(order, 0, new ArrayList<>(), BigInteger.ONE), below = BigInteger.TEN.pow(hands.size());
        BigInteger gcd = above.gcd(below);
        return new long[] {above.divide(gcd).longValueExact(), below.divide(gcd).longValueExact()};
    }

    private BigInteger mean(Order order, int from, List<Hand> chosen, BigInteger weight) {
        if (from == hands.size()) {
            return weight.multiply(BigInteger.valueOf(new Hour(order, chosen, price(), more()).lost()));
        }
        int o = odds[hands.get(from).sort];
        List<Hand> with = new ArrayList<>(chosen);
        with.add(hands.get(from));
        return mean(order, from + 1, with, weight.multiply(BigInteger.valueOf(o)))
            .add(mean(order, from + 1, chosen, weight.multiply(BigInteger.valueOf(10 - o))));
    }
}
