import java.util.Arrays;

/**
 * A window with a free line and a paying one. Every call that asks goes through the hour anew, in rows that the
 * constructor made; nothing but order() makes an object afterwards.
 */
public final class PennyQueue {
    public static final int NONE = -1, BAD = -2, STATE = -3, FULL = -4;
    public static final long NO = Long.MIN_VALUE;

    private static final int NOTHING = -11, CAST = -12, PLACE = -13, SIZE = -14;
    private static final int NEVER = -5;
    private static final int NO_COMER = -1001;
    private static final int NO_SLOW = -100001, BAD_SLOW = -100002;
    private static final int FAULTS = -10, ENDED = 100;

    private static final int SORTS = 6, WORTH = 0, SERVICE = 1, PURSE = 2, TIME = 3, PARTS = 4;
    private static final int TEXT = 100, WINDOWS = 6, ORDERS = 10, KINDS = 7, TAPES = 6, ITEMS = 60;
    private static final int HANDS = 12, CHANCES = 6, CERTAIN = 10;
    private static final int MINUTES = 60, MOST = 40, DEAREST = 20;
    private static final int FREE = 0, PAYING = 1, HOME = 2, LINES = 2;

    private final int[][] sorts = new int[SORTS][PARTS];
    private int sortCount;
    private final byte[] text = new byte[TEXT];
    private int textLength;
    private final Window[] windows = new Window[WINDOWS];
    private final Window bare = new Window();
    private int windowCount;
    private final Order[] orders = new Order[ORDERS];
    private final Order plain = new Order(0, 1);
    private int orderCount;
    private Order acted;
    private final Day day = new Day();
    private final Day imaged = new Day();
    private final Day trial = new Day();
    private boolean imageTaken;
    private int imagedSorts;
    private final Hour hour = new Hour(sorts);
    private final int[] losses = new int[SORTS];
    private final Tape[] tapes = new Tape[TAPES];

    public PennyQueue() {
        for (int i = 0; i < WINDOWS; i++) {
            windows[i] = new Window();
        }
        for (int i = 0; i < TAPES; i++) {
            tapes[i] = new Tape();
        }
    }

    // ---- sorts, windows

    public int sort(int worth, int service, int purse, int time) {
        if (outside(worth, 0, 9) || outside(service, 0, 99) || outside(purse, 0, 20) || outside(time, 1, 9)) {
            return BAD;
        }
        if (sortCount >= SORTS) {
            return FULL;
        }
        int[] fresh = sorts[sortCount];
        fresh[WORTH] = worth;
        fresh[SERVICE] = service;
        fresh[PURSE] = purse;
        fresh[TIME] = time;
        day.odds[sortCount] = CERTAIN;
        sortCount++;
        return sortCount - 1;
    }

    public int of(int sort, int what) {
        if (noSort(sort) || outside(what, 0, PARTS)) {
            return NONE;
        }
        return what == PARTS ? day.odds[sort] : sorts[sort][what];
    }

    public int odds(int sort, int n) {
        if (noSort(sort)) {
            return NONE;
        }
        if (outside(n, 0, CERTAIN)) {
            return BAD;
        }
        int before = day.odds[sort];
        day.odds[sort] = n;
        return before;
    }

    public int feed(int bytes, int n) {
        if (outside(n, 0, 4)) {
            return BAD;
        }
        if (textLength + n > TEXT) {
            return FULL;
        }
        for (int k = n - 1; k >= 0; k--) {
            text[textLength] = (byte) (bytes >>> (8 * k));
            textLength++;
        }
        return textLength;
    }

    public int window() {
        if (windowCount >= WINDOWS) {
            return FULL;
        }
        int fault = windows[windowCount].parse(text, textLength);
        textLength = 0;
        if (fault >= 0) {
            return FAULTS - fault;
        }
        day.window = windowCount;
        windowCount++;
        return day.window;
    }

    public int told(int what) {
        switch (what) {
            case 0:
                return held().price;
            case 1:
                return held().more;
            case 2:
                return held().most;
            default:
                return NONE;
        }
    }

    public int come(int sort, int minute) {
        if (noSort(sort) || outside(minute, 0, MINUTES - 1)) {
            return NONE;
        }
        if (day.hands >= HANDS) {
            return FULL;
        }
        day.tell(sort, minute);
        return day.hands;
    }

    public int clear() {
        int before = day.hands;
        day.hands = 0;
        return before;
    }

    // ---- orders, the hour

    public int order(int kind, int v) {
        if (outside(kind, 0, KINDS - 1)) {
            return NONE;
        }
        if (outside(v, 1, 9)) {
            return BAD;
        }
        if (orderCount >= ORDERS) {
            return FULL;
        }
        orders[orderCount] = made(kind, orderCount, v);
        orderCount++;
        return orderCount - 1;
    }

    public int row(int order, int i, int n) {
        Order asked = orderAt(order);
        if (asked == null || outside(i, 0, Told.ROW - 1)) {
            return NONE;
        }
        if (outside(n, -1, HOME)) {
            return BAD;
        }
        if (asked instanceof Told told) {
            int before = told.row[i];
            told.row[i] = n;
            return before < 0 ? NEVER : before;
        }
        return STATE;
    }

    public int comer(int order, int i, int what) {
        Order asked = orderAt(order);
        if (asked == null) {
            return NO_COMER;
        }
        goThrough(asked);
        if (i < 0 || i >= hour.came) {
            return NO_COMER;
        }
        switch (what) {
            case 0:
                return hour.sortOf[i];
            case 1:
                return hour.minuteOf[i];
            case 2:
                return hour.lineOf[i];
            case 3:
                return hour.paidBy[i];
            case 4:
                return hour.waits(i);
            case 5:
                return hour.rank(i);
            default:
                return NO_COMER;
        }
    }

    public int served(int order, int i, int what) {
        Order asked = orderAt(order);
        if (asked == null || outside(what, 0, 1)) {
            return NONE;
        }
        goThrough(asked);
        if (i < 0 || i >= hour.servedCount) {
            return NONE;
        }
        int who = hour.servedOnes[i];
        return what == 0 ? who : hour.begunAt[who];
    }

    public int all(int order, int what) {
        Order asked = orderAt(order);
        if (asked == null || outside(what, 0, 7)) {
            return NONE;
        }
        goThrough(asked);
        switch (what) {
            case 0:
                return hour.came;
            case 1:
                return hour.servedCount;
            case 2:
                return hour.howMany(FREE);
            case 3:
                return hour.howMany(HOME);
            case 4:
                return hour.lost();
            case 5:
                return hour.pence();
            case 6:
                return hour.busyTill;
            default:
                return hour.back();
        }
    }

    public int stand(int order, int line, int minute) {
        Order asked = orderAt(order);
        if (asked == null || outside(line, FREE, PAYING)) {
            return NONE;
        }
        if (outside(minute, 0, 99)) {
            return BAD;
        }
        goThrough(asked);
        return hour.stoodAt(line, minute);
    }

    // ---- prices, who is worse off

    public int price(int order, int what) {
        Order asked = orderAt(order);
        if (asked == null || outside(what, 0, 4)) {
            return NONE;
        }
        int kindest = 0, dearest = 0, unpaid = NEVER;
        int leastLost = Integer.MAX_VALUE, mostPence = -1;
        for (int n = 0; n <= DEAREST; n++) {
            goThroughWith(asked, day, n, held().more);
            int lost = hour.lost(), pence = hour.pence();
            if (lost < leastLost) {
                leastLost = lost;
                kindest = n;
            }
            if (pence > mostPence) {
                mostPence = pence;
                dearest = n;
            }
            if (n >= 1 && pence == 0 && unpaid < 0) {
                unpaid = n;
            }
        }
        switch (what) {
            case 0:
                return kindest;
            case 1:
                return dearest;
            case 2:
                return unpaid;
            case 3:
                return leastLost;
            default:
                return mostPence;
        }
    }

    public int worse(int order) {
        Order asked = orderAt(order);
        if (asked == null) {
            return NONE;
        }
        goThroughWith(plain, day, 0, held().more);
        for (int k = 0; k < sortCount; k++) {
            losses[k] = hour.lossOf(k);
        }
        goThrough(asked);
        int bits = 0;
        for (int k = 0; k < sortCount; k++) {
            if (hour.lossOf(k) > losses[k]) {
                bits |= 1 << k;
            }
        }
        return bits;
    }

    public int loss(int order, int sort) {
        Order asked = orderAt(order);
        if (asked == null || noSort(sort)) {
            return NONE;
        }
        goThrough(asked);
        return hour.lossOf(sort);
    }

    public int slow(int order, int n) {
        Order asked = orderAt(order);
        if (asked == null) {
            return NO_SLOW;
        }
        if (outside(n, 1, 9)) {
            return BAD_SLOW;
        }
        goThrough(asked);
        int before = hour.pence();
        goThroughWith(asked, day, held().price, held().more + n);
        return hour.pence() - before;
    }

    public int early(int order, int sort, int what) {
        Order asked = orderAt(order);
        if (asked == null || noSort(sort) || outside(what, 0, 1)) {
            return NONE;
        }
        if (day.hands >= HANDS) {
            return FULL;
        }
        int best = NEVER, least = NEVER;
        for (int m = 0; m < MINUTES; m++) {
            trial.become(day, sortCount);
            trial.tell(sort, m);
            goThroughWith(asked, trial, held().price, held().more);
            int waits = hour.waits(hour.lastByHand);
            if (waits >= 0 && (least < 0 || waits < least)) {
                best = m;
                least = waits;
            }
        }
        return what == 0 ? best : least;
    }

    public int sell(int order) {
        Order asked = orderAt(order);
        if (asked == null) {
            return NONE;
        }
        goThrough(asked);
        return hour.sales();
    }

    public long mean(int order, int part) {
        Order asked = orderAt(order);
        if (asked == null || outside(part, 0, 1) || day.hands > CHANCES) {
            return NO;
        }
        long above = 0, below = 1;
        for (int some = 0; some < 1 << day.hands; some++) {
            long weight = chance(some);
            if (weight > 0) {
                goThroughWith(asked, trial, held().price, held().more);
                above += weight * hour.lost();
            }
        }
        for (int k = 0; k < day.hands; k++) {
            below *= CERTAIN;
        }
        return reduced(above, below, part);
    }

    // ---- judging, the image, acts, tapes

    public int judge(int tape, int i, int n, int order) {
        Tape looked = tapeAt(tape);
        Order asked = orderAt(order);
        if (looked == null || asked == null) {
            return NONE;
        }
        if (outside(n, 0, MOST)) {
            return BAD;
        }
        if (looked.sort > Tape.BYTES) {
            return CAST;
        }
        goThrough(asked);
        for (int k = 0; k < n; k++) {
            if (looked.lacks((long) i + k)) {
                return ENDED + k;
            }
            if (k >= hour.servedCount || looked.items[i + k] != hour.sortOf[hour.servedOnes[k]]) {
                return k;
            }
        }
        return NEVER;
    }

    public int image() {
        imaged.become(day, sortCount);
        imagedSorts = sortCount;
        imageTaken = true;
        return day.hands;
    }

    public int undo() {
        if (!imageTaken) {
            return STATE;
        }
        day.become(imaged, imagedSorts);
        return day.hands;
    }

    public int act(int order, int act, int x) {
        acted = null;
        Order asked = orderAt(order);
        if (asked == null || outside(act, 0, 2)) {
            return 0;
        }
        acted = asked;
        asked.ran = 0;
        switch (act) {
            case 0:
                return asked.joins(x);
            case 1:
                return asked.takes(x);
            default:
                return asked.tells(x);
        }
    }

    public int trace(int i) {
        if (acted == null || i < 0 || i >= Order.KEPT || i >= acted.ran) {
            return NONE;
        }
        return acted.bodies[i];
    }

    public int taken(int order, int k) {
        if (outside(k, 0, KINDS - 1)) {
            return BAD;
        }
        Order asked = orderAt(order);
        if (asked == null) {
            return NOTHING;
        }
        return isOf(asked, k) ? asked.kind() : CAST;
    }

    public int count(int what) {
        switch (what) {
            case 0:
                return sortCount;
            case 1:
                return windowCount;
            case 2:
                return orderCount;
            case 3:
                return day.hands;
            case 4:
                return textLength;
            case 5:
                return acted == null ? 0 : acted.ran;
            default:
                return BAD;
        }
    }

    public int tape(int tape, int sort, int n) {
        Tape fresh = tapeAt(tape);
        if (fresh == null) {
            return NONE;
        }
        if (outside(sort, Tape.EMPTY, Tape.BOOLEANS) || sort != Tape.EMPTY && n > ITEMS) {
            return BAD;
        }
        if (sort != Tape.EMPTY && n < 0) {
            return SIZE;
        }
        fresh.become(sort, sort == Tape.EMPTY ? 0 : n);
        return 1;
    }

    public int item(int tape, int i, long v) {
        Tape written = tapeAt(tape);
        if (written == null) {
            return NONE;
        }
        if (written.sort == Tape.EMPTY) {
            return NOTHING;
        }
        if (written.lacks(i)) {
            return PLACE;
        }
        written.items[i] = written.fitted(v);
        return 1;
    }

    public long read(int tape, int i) {
        Tape looked = tapeAt(tape);
        if (looked == null || looked.lacks(i)) {
            return NO;
        }
        return looked.items[i];
    }

    public int shift(int tape, int i, int other, int j, int n) {
        Tape from = tapeAt(tape);
        Tape to = tapeAt(other);
        if (from == null || to == null) {
            return NONE;
        }
        if (from.sort == Tape.EMPTY || to.sort == Tape.EMPTY) {
            return NOTHING;
        }
        if (from.sort != to.sort) {
            return CAST;
        }
        if (n < 0 || i < 0 || j < 0 || (long) i + n > from.length || (long) j + n > to.length) {
            return PLACE;
        }
        System.arraycopy(from.items, i, to.items, j, n);
        return n;
    }

    // ---- what the calls share

    private static boolean outside(int n, int least, int most) {
        return n < least || n > most;
    }

    private boolean noSort(int sort) {
        return sort < 0 || sort >= sortCount;
    }

    private Order orderAt(int order) {
        return order < 0 || order >= orderCount ? null : orders[order];
    }

    private Tape tapeAt(int tape) {
        return tape < 0 || tape >= TAPES ? null : tapes[tape];
    }

    private Window held() {
        return day.window < 0 || day.window >= windowCount ? bare : windows[day.window];
    }

    private void goThrough(Order order) {
        goThroughWith(order, day, held().price, held().more);
    }

    private void goThroughWith(Order order, Day who, int price, int more) {
        hour.pass(order, held(), price, more, who, sortCount);
    }

    /** Lets those of the day's hands whose bits are set come in the trial: by how many chances of 10 to the hands. */
    private long chance(int some) {
        trial.hands = 0;
        long weight = 1;
        for (int k = 0; k < day.hands; k++) {
            int odds = day.odds[day.sorts[k]];
            if ((some >> k & 1) == 1) {
                weight *= odds;
                trial.tell(day.sorts[k], day.minutes[k]);
            } else {
                weight *= CERTAIN - odds;
            }
        }
        return weight;
    }

    /** A part of the fraction in lowest terms; below the line stands a power of ten, of CHANCES at most. */
    private static long reduced(long above, long below, int part) {
        for (int k = 0; k < CHANCES; k++) {
            if (above % 2 == 0 && below % 2 == 0) {
                above /= 2;
                below /= 2;
            }
            if (above % 5 == 0 && below % 5 == 0) {
                above /= 5;
                below /= 5;
            }
        }
        return part == 0 ? above : below;
    }

    private static Order made(int kind, int number, int v) {
        switch (kind) {
            case 1:
                return new First(number, v);
            case 2:
                return new Share(number, v);
            case 3:
                return new Length(number, v);
            case 4:
                return new Poor(number, v);
            case 5:
                return new Full(number, v);
            case 6:
                return new Told(number, v);
            default:
                return new Order(number, v);
        }
    }

    private static boolean isOf(Order order, int kind) {
        switch (kind) {
            case 1:
                return order instanceof First;
            case 2:
                return order instanceof Share;
            case 3:
                return order instanceof Length;
            case 4:
                return order instanceof Poor;
            case 5:
                return order instanceof Full;
            case 6:
                return order instanceof Told;
            default:
                return true;
        }
    }

    /** What THE IMAGE keeps: which WINDOW holds, the odds, those told by hand. */
    private static final class Day {
        int window = -1;
        final int[] odds = new int[SORTS];
        final int[] sorts = new int[HANDS];
        final int[] minutes = new int[HANDS];
        int hands;

        void tell(int sort, int minute) {
            if (hands < HANDS) {
                sorts[hands] = sort;
                minutes[hands] = minute;
                hands++;
            }
        }

        void become(Day other, int sortCount) {
            window = other.window;
            hands = other.hands;
            System.arraycopy(other.odds, 0, odds, 0, sortCount);
            System.arraycopy(other.sorts, 0, sorts, 0, hands);
            System.arraycopy(other.minutes, 0, minutes, 0, hands);
        }
    }

    /** A row of items of one sort, each held as a long that fits that sort. */
    private static final class Tape {
        static final int EMPTY = -1, BYTES = 0, SHORTS = 1, INTS = 2, BOOLEANS = 4;

        int sort = EMPTY;
        int length;
        final long[] items = new long[ITEMS];

        void become(int newSort, int newLength) {
            sort = newSort;
            length = newLength;
            Arrays.fill(items, 0L);
        }

        boolean lacks(long place) {
            return place < 0 || place >= length;
        }

        long fitted(long v) {
            switch (sort) {
                case BYTES:
                    return (byte) v;
                case SHORTS:
                    return (short) v;
                case INTS:
                    return (int) v;
                case BOOLEANS:
                    return v != 0 ? 1 : 0;
                default:
                    return v;
            }
        }
    }

    /** What a text tells: price, more, most, and for each come a run of steps, operands ahead of their operator. */
    private static final class Window {
        private static final int CLAUSES = 8, NESTED = 4, SLOWEST = 20, UNTOLD_MOST = 30;
        private static final int AND = -1, OR = -2, NOT = -3;
        private static final String LETTERS = "tlfn", SIGNS = "<=>";
        /** A TEST is one step: its letter and sign, by their places above, times this, and its number. */
        private static final int NUMBERS = 100;

        int price, more, most = UNTOLD_MOST;
        private int comes;
        private final int[] comeSort = new int[CLAUSES];
        private final int[] comeEnd = new int[CLAUSES];
        private final int[] steps = new int[TEXT];
        private int stepCount;
        private byte[] bytes;
        private int length;
        private int place;

        /** The FAULT, or -1. A part that can't be read leaves the place at the byte that doesn't fit. */
        int parse(byte[] text, int textLength) {
            price = 0;
            more = 0;
            most = UNTOLD_MOST;
            comes = 0;
            stepCount = 0;
            bytes = text;
            length = textLength;
            place = 0;
            for (int clauses = 1; clauses <= CLAUSES; clauses++) {
                boolean fits = skip('c') ? comeClause() : numberClause();
                if (fits && place == length) {
                    return -1;
                }
                if (!fits || clauses == CLAUSES || !skip(';')) {
                    return place;
                }
            }
            return place;
        }

        /** Whether some come of the sort holds in minute t with l and f in the lines and n ahead. */
        boolean calls(int sort, int t, int l, int f, int n) {
            for (int c = 0; c < comes; c++) {
                int from = c == 0 ? 0 : comeEnd[c - 1];
                if (comeSort[c] == sort && holds(from, comeEnd[c], t, l, f, n)) {
                    return true;
                }
            }
            return false;
        }

        // The answers wait as bits, the latest lowest; nesting keeps them fewer than an int has.
        private boolean holds(int from, int end, int t, int l, int f, int n) {
            int bits = 0;
            for (int s = from; s < end; s++) {
                int step = steps[s];
                if (step == NOT) {
                    bits ^= 1;
                } else if (step == AND) {
                    bits = bits >> 1 & (bits | -2);
                } else if (step == OR) {
                    bits = bits >> 1 | bits & 1;
                } else {
                    int letter = step / (NUMBERS * 3), sign = step / NUMBERS % 3;
                    int value = letter == 0 ? t : letter == 1 ? l : letter == 2 ? f : n;
                    bits = bits << 1 | (tested(value, sign, step % NUMBERS) ? 1 : 0);
                }
            }
            return (bits & 1) == 1;
        }

        private static boolean tested(int value, int sign, int number) {
            return sign == 0 ? value < number : sign == 1 ? value == number : value > number;
        }

        private boolean comeClause() {
            if (comes >= CLAUSES || !word("ome ")) {
                return false;
            }
            int k = digit();
            if (k < 0 || k >= SORTS) {
                return false;
            }
            place++;
            if (!skip(' ') || !either(0)) {
                return false;
            }
            comeSort[comes] = k;
            comeEnd[comes] = stepCount;
            comes++;
            return true;
        }

        private boolean numberClause() {
            int told = numberWord();
            int n = told < 0 ? -1 : number();
            if (n < 0) {
                return false;
            }
            switch (told) {
                case 0:
                    price = Math.min(n, DEAREST);
                    break;
                case 1:
                    more = Math.min(n, SLOWEST);
                    break;
                default:
                    most = Math.min(n, MOST);
                    break;
            }
            return true;
        }

        /** Which word stands at the place, with its blank: 0 price, 1 more, 2 most; -1: none. */
        private int numberWord() {
            if (skip('p')) {
                return word("rice ") ? 0 : -1;
            }
            if (!word("mo")) {
                return -1;
            }
            if (skip('r')) {
                return word("e ") ? 1 : -1;
            }
            return word("st ") ? 2 : -1;
        }

        private boolean either(int within) {
            for (int parts = 0; parts < TEXT; parts++) {
                if (!both(within)) {
                    return false;
                }
                if (parts > 0) {
                    step(OR);
                }
                if (!skip('|')) {
                    return true;
                }
            }
            return false;
        }

        private boolean both(int within) {
            for (int parts = 0; parts < TEXT; parts++) {
                if (!factor(within)) {
                    return false;
                }
                if (parts > 0) {
                    step(AND);
                }
                if (!skip('&')) {
                    return true;
                }
            }
            return false;
        }

        private boolean factor(int within) {
            if (within < NESTED && skip('!')) {
                if (!factor(within + 1)) {
                    return false;
                }
                step(NOT);
                return true;
            }
            if (within < NESTED && skip('(')) {
                return either(within + 1) && skip(')');
            }
            return test();
        }

        private boolean test() {
            int letter = oneOf(LETTERS);
            if (letter < 0) {
                return false;
            }
            int sign = oneOf(SIGNS);
            if (sign < 0) {
                return false;
            }
            int n = number();
            if (n < 0) {
                return false;
            }
            step((letter * 3 + sign) * NUMBERS + n);
            return true;
        }

        private void step(int what) {
            if (stepCount < TEXT) {
                steps[stepCount] = what;
                stepCount++;
            }
        }

        /** A number of one or two digits, or -1. */
        private int number() {
            int first = digit();
            if (first < 0) {
                return -1;
            }
            place++;
            int second = digit();
            if (second < 0) {
                return first;
            }
            place++;
            return first * 10 + second;
        }

        /** The digit that stands at the place, or -1. */
        private int digit() {
            if (place >= length || bytes[place] < '0' || bytes[place] > '9') {
                return -1;
            }
            return bytes[place] - '0';
        }

        private boolean skip(char c) {
            if (place >= length || bytes[place] != c) {
                return false;
            }
            place++;
            return true;
        }

        private boolean word(String rest) {
            for (int k = 0; k < rest.length(); k++) {
                if (!skip(rest.charAt(k))) {
                    return false;
                }
            }
            return true;
        }

        private int oneOf(String choice) {
            for (int k = 0; k < choice.length(); k++) {
                if (skip(choice.charAt(k))) {
                    return k;
                }
            }
            return -1;
        }
    }

    /** KIND 0, and what the KINDS under it don't do otherwise. */
    private static class Order {
        static final int KEPT = 20;

        final int number;
        final int v;
        int ran;
        final int[] bodies = new int[KEPT];

        Order(int number, int v) {
            this.number = number;
            this.v = v;
        }

        int kind() {
            return 0;
        }

        int asks(int price, int inPaying) {
            return price;
        }

        int due(int asked, int purse) {
            return asked;
        }

        int aheadOfPaying(int paying, int both) {
            return both;
        }

        boolean turnsAway(int standing) {
            return false;
        }

        /** The line told for the i-th one who comes, or -1. */
        int lineTold(int i) {
            return -1;
        }

        /** Who is NEXT, of the first ones of the lines (-1: nobody is there). */
        int next(int paying, int free, int takenInRow) {
            if (paying < 0 || free < 0) {
                return Math.max(paying, free);
            }
            return Math.min(paying, free);
        }

        final void began(int body) {
            if (ran >= 0 && ran < KEPT) {
                bodies[ran] = body;
            }
            ran++;
        }

        int joins(int x) {
            began(10);
            return x + number;
        }

        int takes(int x) {
            began(11);
            return joins(x) - v;
        }

        int tells(int x) {
            began(12);
            return takes(x) * 2;
        }
    }

    private static class First extends Order {
        First(int number, int v) {
            super(number, v);
        }

        int kind() {
            return 1;
        }

        int aheadOfPaying(int paying, int both) {
            return paying;
        }

        int next(int paying, int free, int takenInRow) {
            return paying >= 0 ? paying : free;
        }

        int takes(int x) {
            began(20);
            return super.takes(x) ^ 6;
        }
    }

    private static class Share extends Order {
        Share(int number, int v) {
            super(number, v);
        }

        int kind() {
            return 2;
        }

        int aheadOfPaying(int paying, int both) {
            return paying;
        }

        int next(int paying, int free, int takenInRow) {
            return paying >= 0 && (takenInRow < v || free < 0) ? paying : free;
        }

        int joins(int x) {
            began(30);
            return super.joins(x * 3);
        }
    }

    private static final class Length extends First {
        Length(int number, int v) {
            super(number, v);
        }

        int kind() {
            return 3;
        }

        int asks(int price, int inPaying) {
            return price + v * inPaying;
        }

        int joins(int x) {
            began(50);
            return -super.joins(x);
        }

        int takes(int x) {
            began(51);
            return super.takes(x + 1);
        }
    }

    private static final class Poor extends Share {
        Poor(int number, int v) {
            super(number, v);
        }

        int kind() {
            return 4;
        }

        int due(int asked, int purse) {
            return purse < asked ? 0 : asked;
        }

        int tells(int x) {
            began(60);
            return super.tells(x - number);
        }
    }

    private static final class Full extends Order {
        Full(int number, int v) {
            super(number, v);
        }

        int kind() {
            return 5;
        }

        boolean turnsAway(int standing) {
            return standing >= v;
        }

        int tells(int x) {
            began(40);
            return super.tells(x) + takes(1);
        }
    }

    private static final class Told extends First {
        static final int ROW = 10;

        final int[] row = new int[ROW];

        Told(int number, int v) {
            super(number, v);
            Arrays.fill(row, -1);
        }

        int kind() {
            return 6;
        }

        int lineTold(int i) {
            return i < 0 || i >= ROW ? -1 : row[i];
        }

        int takes(int x) {
            began(70);
            return super.takes(x) + super.joins(2);
        }

        int joins(int x) {
            began(71);
            return super.joins(x) ^ v;
        }
    }

    /** One hour by one ORDER: pass(), and then what came of it. */
    private static final class Hour {
        final int[] sortOf = new int[MOST];
        final int[] minuteOf = new int[MOST];
        final int[] lineOf = new int[MOST];
        final int[] paidBy = new int[MOST];
        final int[] begunAt = new int[MOST];
        final int[] servedOnes = new int[MOST];
        int came;
        int servedCount;
        /** Which one who came was told by hand behind all others; -1: that one did not come. */
        int lastByHand;
        /** The first MINUTE in which the window is free again. */
        int busyTill;

        private final int[][] sorts;
        private Order order;
        private Window window;
        private int price;
        private int more;
        private int minute;
        private final int[] standing = new int[LINES];
        private final int[] times = new int[LINES];
        private int takenInRow;

        Hour(int[][] sorts) {
            this.sorts = sorts;
        }

        void pass(Order by, Window told, int withPrice, int withMore, Day day, int sortCount) {
            begin(by, told, withPrice, withMore);
            for (minute = 0; minute < MINUTES; minute++) {
                comeByHand(day);
                comeByText(sortCount);
                serve();
            }
            // Nobody comes any more: only when the window is free again can anything happen.
            for (int left = standing[FREE] + standing[PAYING]; left > 0; left--) {
                minute = Math.max(minute, busyTill);
                serve();
            }
        }

        private void begin(Order by, Window told, int withPrice, int withMore) {
            order = by;
            window = told;
            price = withPrice;
            more = withMore;
            came = 0;
            servedCount = 0;
            lastByHand = -1;
            busyTill = 0;
            takenInRow = 0;
            Arrays.fill(standing, 0);
            Arrays.fill(times, 0);
        }

        private void comeByHand(Day day) {
            for (int k = 0; k < day.hands; k++) {
                if (day.minutes[k] == minute && roomForMore()) {
                    if (k == day.hands - 1) {
                        lastByHand = came;
                    }
                    enter(day.sorts[k]);
                }
            }
        }

        private void comeByText(int sortCount) {
            for (int k = 0; k < sortCount; k++) {
                if (roomForMore() && window.calls(k, minute, standing[PAYING], standing[FREE], came)) {
                    enter(k);
                }
            }
        }

        private boolean roomForMore() {
            return came < window.most && came < MOST;
        }

        private void enter(int sort) {
            int due = order.due(order.asks(price, standing[PAYING]), sorts[sort][PURSE]);
            int line = lineFor(sort, due);
            sortOf[came] = sort;
            minuteOf[came] = minute;
            lineOf[came] = line;
            paidBy[came] = line == PAYING ? due : 0;
            begunAt[came] = -1;
            came++;
            if (line != HOME) {
                standing[line]++;
                times[line] += timeOf(sort);
            }
        }

        private int lineFor(int sort, int due) {
            boolean affords = due <= sorts[sort][PURSE];
            int told = order.lineTold(came);
            if (told >= 0 && (told != PAYING || affords)) {
                return told;
            }
            int atWindow = Math.max(busyTill - minute, 0);
            int both = atWindow + times[FREE] + times[PAYING];
            int ahead = order.aheadOfPaying(atWindow + times[PAYING], both);
            int free = sorts[sort][WORTH] * both;
            int paying = sorts[sort][WORTH] * ahead + due;
            int line = affords && paying < free ? PAYING : FREE;
            int cost = line == PAYING ? paying : free;
            boolean leaves = cost > sorts[sort][SERVICE] || order.turnsAway(standing[FREE] + standing[PAYING]);
            return leaves ? HOME : line;
        }

        private void serve() {
            if (minute < busyTill) {
                return;
            }
            int who = order.next(firstOf(PAYING), firstOf(FREE), takenInRow);
            if (who < 0 || servedCount >= MOST) {
                return;
            }
            int line = lineOf[who], time = timeOf(sortOf[who]);
            takenInRow = line == PAYING ? takenInRow + 1 : 0;
            standing[line]--;
            times[line] -= time;
            begunAt[who] = minute;
            busyTill = minute + time;
            servedOnes[servedCount] = who;
            servedCount++;
        }

        /** Who came first of those who stand in a line; -1: nobody does. */
        private int firstOf(int line) {
            if (standing[line] > 0) {
                for (int i = 0; i < came; i++) {
                    if (lineOf[i] == line && begunAt[i] < 0) {
                        return i;
                    }
                }
            }
            return -1;
        }

        private int timeOf(int sort) {
            return sorts[sort][TIME] + more;
        }

        // ---- what came of it

        /** How long the i-th one waits; -5: that one went HOME, or there is none. */
        int waits(int i) {
            return i < 0 || i >= came || lineOf[i] == HOME ? NEVER : begunAt[i] - minuteOf[i];
        }

        int rank(int i) {
            for (int k = 0; k < servedCount; k++) {
                if (servedOnes[k] == i) {
                    return k;
                }
            }
            return NEVER;
        }

        int howMany(int line) {
            int many = 0;
            for (int i = 0; i < came; i++) {
                if (lineOf[i] == line) {
                    many++;
                }
            }
            return many;
        }

        int stoodAt(int line, int at) {
            int many = 0;
            for (int i = 0; i < came; i++) {
                if (lineOf[i] == line && minuteOf[i] <= at && begunAt[i] > at) {
                    many++;
                }
            }
            return many;
        }

        int lost() {
            int together = 0;
            for (int i = 0; i < came; i++) {
                if (lineOf[i] != HOME) {
                    together += sorts[sortOf[i]][WORTH] * waits(i);
                }
            }
            return together;
        }

        int pence() {
            int together = 0;
            for (int i = 0; i < came; i++) {
                together += paidBy[i];
            }
            return together;
        }

        int back() {
            int free = howMany(FREE);
            return free == 0 ? 0 : pence() / free;
        }

        int lossOf(int sort) {
            int together = 0;
            for (int i = 0; i < came; i++) {
                if (sortOf[i] == sort) {
                    together += lineOf[i] == HOME
                        ? sorts[sort][SERVICE] : sorts[sort][WORTH] * waits(i) + paidBy[i];
                }
            }
            return together;
        }

        int sales() {
            int many = 0;
            for (int k = 1; k < servedCount; k++) {
                int earlier = sortOf[servedOnes[k - 1]], later = sortOf[servedOnes[k]];
                if (earlier != later
                    && sorts[later][WORTH] * timeOf(earlier) > sorts[earlier][WORTH] * timeOf(later)) {
                    many++;
                }
            }
            return many;
        }
    }
}
