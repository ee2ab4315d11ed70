import java.util.Arrays;

/** A bench that measures spans with sandglasses; DOC.md tells what each call promises. */
public final class SandBench {
    public static final int NUMBER = -1;
    public static final int FULL = -2;
    public static final int MISSING = -3;
    public static final int SIZE = -4;
    public static final int STATE = -5;
    public static final int KIND = -6;
    public static final int NEVER = -7;
    public static final int SPENT = -8;

    private static final int NO_NUMBER = -2147483648;
    private static final int LONGEST_SPAN = 60;

    private final Row[] rows;
    private final Glasses bench;
    private final ByHand byHand;
    private final Config scratch;
    private final Reached reached;
    private final Plans plans;
    private final Claimed claimed;

    public SandBench() {
        rows = new Row[] {new Row(), new Row(), new Row(), new Row()};
        bench = new Glasses();
        byHand = new ByHand(new Config(bench));
        scratch = new Config(bench);
        reached = new Reached(bench, scratch);
        plans = new Plans(reached);
        claimed = new Claimed();
    }

    // ---- rows and glasses

    public int row(int r, int kind, int n) {
        if (isNoRow(r) || kind < Row.BYTES || kind > Row.INTS) {
            return NUMBER;
        }
        if (n < 0) {
            return SIZE;
        }
        if (n > Row.LONGEST) {
            return NUMBER;
        }
        rows[r].come(kind, n);
        return 1;
    }

    public int cell(int r, int i, int v) {
        if (isNoRow(r)) {
            return NUMBER;
        }
        if (rows[r].isMissing()) {
            return MISSING;
        }
        if (!rows[r].has(i)) {
            return NUMBER;
        }
        rows[r].change(i, v);
        return 1;
    }

    public int told(int r, int i) {
        if (isNoRow(r) || !rows[r].has(i)) {
            return NO_NUMBER;
        }
        return rows[r].number(i);
    }

    public int lose(int r) {
        if (isNoRow(r)) {
            return NUMBER;
        }
        if (rows[r].isMissing()) {
            return MISSING;
        }
        rows[r].go();
        return 1;
    }

    public int glass(int kind, int r, int i, int with) {
        if (isNoRow(r) || kind < Glasses.PLAIN || kind > Glasses.LATE) {
            return NUMBER;
        }
        if (rows[r].isMissing()) {
            return MISSING;
        }
        if (!tellsGrains(r, i) || !bench.suits(kind, with)) {
            return NUMBER;
        }
        if (bench.isFull()) {
            return FULL;
        }
        int g = bench.add(kind, rows[r].number(i), with);
        startAnew();
        return g;
    }

    public int fill(int g, int r, int i) {
        if (!bench.has(g) || isNoRow(r)) {
            return NUMBER;
        }
        if (rows[r].isMissing()) {
            return MISSING;
        }
        if (!tellsGrains(r, i)) {
            return NUMBER;
        }
        bench.refill(g, rows[r].number(i));
        startAnew();
        return 1;
    }

    public int clear() {
        int gone = bench.count();
        bench.removeAll();
        startAnew();
        return gone;
    }

    public int of(int g, int what) {
        if (!bench.has(g)) {
            return NUMBER;
        }
        switch (what) {
            case 0:
                return bench.kind(g);
            case 1:
                return bench.grains(g);
            case 2:
                return bench.with(g);
            case 3:
            case 4:
            case 5:
                return byHand.part(g, what - 3);
            default:
                return NUMBER;
        }
    }

    public int glasses() {
        return bench.count();
    }

    // ---- by hand

    public int can(int handling) {
        if (Handling.isNone(handling)) {
            return NUMBER;
        }
        return byHand.allows(handling) ? 1 : 0;
    }

    public int hand(int handling) {
        if (Handling.isNone(handling)) {
            return NUMBER;
        }
        if (byHand.isHandled()) {
            return STATE;
        }
        if (!byHand.allows(handling)) {
            return KIND;
        }
        byHand.handle(handling);
        return Handling.countOf(handling);
    }

    public int next() {
        return byHand.goOn();
    }

    public int undo() {
        return byHand.takeBack();
    }

    public int begin() {
        byHand.restart();
        return 1;
    }

    public int moment() {
        return byHand.now();
    }

    public int event(int k) {
        return byHand.momentOf(k);
    }

    // ---- all plans

    public int reach() {
        return reached.isSpent() ? SPENT : reached.count();
    }

    public int config(int i, int g, int what) {
        if (!bench.has(g) || what < Config.ABOVE || what > Config.WAITS) {
            return -1;
        }
        if (reached.isSpent() || i < 0 || i >= reached.count()) {
            return -1;
        }
        scratch.take(reached.keyInOrder(i));
        return scratch.part(g, what);
    }

    public int pure(int s) {
        int refusal = refusalOf(s);
        if (refusal != 0) {
            return refusal;
        }
        return plans.isPure(s) ? 1 : 0;
    }

    public int spans(int s) {
        int refusal = refusalOf(s);
        return refusal != 0 ? refusal : plans.pureUpTo(s);
    }

    public int fewest(int s) {
        int refusal = refusalOf(s);
        if (refusal != 0) {
            return refusal;
        }
        return plans.isPure(s) ? plans.leastSum(s) : NEVER;
    }

    public int plan(int s, int i) {
        if (refusalOf(s) != 0 || !plans.isPure(s)) {
            return -1;
        }
        plans.makePlan(s);
        return i >= 0 && i < plans.planLength() ? plans.handlingAt(i) : -1;
    }

    public int soonest(int s) {
        int refusal = refusalOf(s);
        return refusal != 0 ? refusal : plans.soonestEnd(s);
    }

    // ---- claimed plans

    public int claim(int handling) {
        if (Handling.isNone(handling)) {
            return NUMBER;
        }
        if (claimed.isFull()) {
            return FULL;
        }
        claimed.add(handling);
        return claimed.count();
    }

    public int copy(int s) {
        int refusal = refusalOf(s);
        if (refusal != 0) {
            return refusal;
        }
        if (!plans.isPure(s)) {
            return NEVER;
        }
        plans.makePlan(s);
        claimed.removeAll();
        for (int i = 0; i < plans.planLength(); i++) {
            claimed.add(plans.handlingAt(i));
        }
        return claimed.count();
    }

    public int alter(int k, int handling) {
        if (!claimed.has(k) || Handling.isNone(handling)) {
            return NUMBER;
        }
        claimed.change(k, handling);
        return 1;
    }

    public int unclaim() {
        int gone = claimed.count();
        claimed.removeAll();
        return gone;
    }

    public int check() {
        return claimed.goThrough(scratch);
    }

    private static boolean isNoRow(int r) {
        return r < 0 || r > 3;
    }

    private boolean tellsGrains(int r, int i) {
        return rows[r].has(i) && Glasses.canHold(rows[r].number(i));
    }

    /** What was gone through and played holds for the glasses as they were. */
    private void startAnew() {
        byHand.restart();
        reached.forget();
        plans.forget();
    }

    /** Why nothing can be said of a span, 0 if something can. */
    private int refusalOf(int s) {
        if (s < 1 || s > LONGEST_SPAN) {
            return NUMBER;
        }
        return reached.isSpent() ? SPENT : 0;
    }

    /** A row of numbers, held as ints that its kind has cast. */
    private static final class Row {
        static final int BYTES = 0;
        static final int SHORTS = 1;
        static final int INTS = 2;
        static final int LONGEST = 20;

        private final int[] numbers = new int[LONGEST];
        private boolean there;
        private int kind;
        private int length;

        void come(int newKind, int n) {
            there = true;
            kind = newKind;
            length = n;
            Arrays.fill(numbers, 1);
        }

        void go() {
            there = false;
            length = 0;
        }

        boolean isMissing() {
            return !there;
        }

        boolean has(int i) {
            return i >= 0 && i < length;
        }

        int number(int i) {
            return numbers[i];
        }

        void change(int i, int v) {
            numbers[i] = kind == BYTES ? (byte) v : kind == SHORTS ? (short) v : v;
        }
    }

    /** What glasses there are; how they stand is a Config's. */
    private static final class Glasses {
        static final int MOST = 4;
        static final int PLAIN = 0;
        static final int TWIN = 1;
        static final int STOPPED = 2;
        static final int STIFF = 3;
        static final int LATE = 4;

        private static final int MOST_GRAINS = 30;
        private static final int LONGEST_DELAY = 9;

        private final int[] kinds = new int[MOST];
        private final int[] grains = new int[MOST];
        private final int[] withs = new int[MOST];
        private int count;

        static boolean canHold(int grains) {
            return grains >= 1 && grains <= MOST_GRAINS;
        }

        boolean suits(int kind, int with) {
            if (kind == TWIN) {
                return has(with);
            }
            return kind != LATE || with >= 1 && with <= LONGEST_DELAY;
        }

        int add(int kind, int grainsOfIt, int with) {
            int g = count;
            kinds[g] = kind;
            grains[g] = grainsOfIt;
            withs[g] = kind == TWIN || kind == LATE ? with : -1;
            count++;
            return g;
        }

        void refill(int g, int grainsOfIt) {
            grains[g] = grainsOfIt;
        }

        void removeAll() {
            count = 0;
        }

        boolean isFull() {
            return count >= MOST;
        }

        boolean has(int g) {
            return g >= 0 && g < count;
        }

        int count() {
            return count;
        }

        int kind(int g) {
            return kinds[g];
        }

        int grains(int g) {
            return grains[g];
        }

        int with(int g) {
            return withs[g];
        }
    }

    /** How a handling is read: a digit to the base 4 for each glass. */
    private static final class Handling {
        static final int NOTHING = 0;
        static final int TURNED = 1;
        static final int LAID = 2;
        static final int SET_UP = 3;

        private static final int GREATEST = 255;
        private static final int LOW_BITS = 0x55;

        static boolean isNone(int handling) {
            return handling < 0 || handling > GREATEST;
        }

        static int digit(int handling, int g) {
            return handling >> 2 * g & 3;
        }

        static int countOf(int handling) {
            return Integer.bitCount((handling | handling >> 1) & LOW_BITS);
        }
    }

    /** How the glasses stand, and what becomes of that by handlings and by time. */
    private static final class Config {
        static final int ABOVE = 0;
        static final int LAID = 1;
        static final int WAITS = 2;

        private static final int KEY_BITS = 10;

        private final Glasses glasses;
        private final int[] above = new int[Glasses.MOST];
        private final boolean[] laid = new boolean[Glasses.MOST];
        private final int[] waits = new int[Glasses.MOST];

        Config(Glasses glasses) {
            this.glasses = glasses;
        }

        /** Glass 0 stands highest, so that keys come in the order that the document asks of configs. */
        long key() {
            long key = 0;
            for (int g = 0; g < Glasses.MOST; g++) {
                key = key << KEY_BITS | above[g] << 5 | (laid[g] ? 16 : 0) | waits[g];
            }
            return key;
        }

        /** Key 0 is the first config. */
        void take(long key) {
            long rest = key;
            for (int g = Glasses.MOST - 1; g >= 0; g--) {
                int low = (int) rest;
                above[g] = low >> 5 & 31;
                laid[g] = (low & 16) != 0;
                waits[g] = low & 15;
                rest >>= KEY_BITS;
            }
        }

        int part(int g, int what) {
            if (what == ABOVE) {
                return above[g];
            }
            if (what == LAID) {
                return laid[g] ? 1 : 0;
            }
            return waits[g];
        }

        boolean allows(int handling) {
            int rest = handling;
            for (int g = 0; g < Glasses.MOST && rest != 0; g++) {
                int digit = rest & 3;
                if (digit != Handling.NOTHING && !allowsDigit(g, digit, handling)) {
                    return false;
                }
                rest >>= 2;
            }
            return true;
        }

        private boolean allowsDigit(int g, int digit, int handling) {
            if (!glasses.has(g)) {
                return false;
            }
            if (digit == Handling.SET_UP) {
                return laid[g];
            }
            if (laid[g]) {
                return false;
            }
            int kind = glasses.kind(g);
            if (digit == Handling.LAID) {
                return kind == Glasses.STOPPED || kind == Glasses.LATE;
            }
            if (kind == Glasses.STIFF) {
                return !falls(g);
            }
            return kind != Glasses.TWIN
                    || Handling.digit(handling, glasses.with(g)) == Handling.TURNED;
        }

        private boolean falls(int g) {
            return !laid[g] && waits[g] == 0 && above[g] > 0;
        }

        void handle(int handling) {
            for (int g = 0; g < glasses.count(); g++) {
                switch (Handling.digit(handling, g)) {
                    case Handling.TURNED:
                        turn(g);
                        break;
                    case Handling.LAID:
                        laid[g] = true;
                        break;
                    case Handling.SET_UP:
                        laid[g] = false;
                        break;
                    default:
                        break;
                }
            }
        }

        private void turn(int g) {
            above[g] = glasses.grains(g) - above[g];
            if (glasses.kind(g) == Glasses.LATE) {
                waits[g] = glasses.with(g);
            }
        }

        /** How many moments pass until the next event, 0 if there is none. */
        int untilEvent() {
            int least = 0;
            for (int g = 0; g < glasses.count(); g++) {
                if (!laid[g] && above[g] > 0) {
                    int needs = waits[g] + above[g];
                    least = least == 0 ? needs : Math.min(least, needs);
                }
            }
            return least;
        }

        /** At most until the next event, so that no glass has less above than would fall. */
        void letPass(int moments) {
            for (int g = 0; g < glasses.count(); g++) {
                if (!laid[g]) {
                    int waited = Math.min(waits[g], moments);
                    waits[g] -= waited;
                    above[g] = Math.max(0, above[g] - (moments - waited));
                }
            }
        }
    }

    /** The run by hand, with the latest steps kept in a ring. */
    private static final class ByHand {
        private static final int MOST_EVENTS = 200;
        private static final int MOST_KEPT = 100;

        private final Config config;
        private final int[] moments = new int[MOST_EVENTS];
        private int events = 1;
        private boolean handled;

        private final long[] keptKeys = new long[MOST_KEPT];
        private final int[] keptEvents = new int[MOST_KEPT];
        private final boolean[] keptHandled = new boolean[MOST_KEPT];
        private int kept;
        private int ringEnd;

        ByHand(Config config) {
            this.config = config;
        }

        void restart() {
            config.take(0);
            events = 1;
            handled = false;
            kept = 0;
        }

        int part(int g, int what) {
            return config.part(g, what);
        }

        boolean allows(int handling) {
            return config.allows(handling);
        }

        boolean isHandled() {
            return handled;
        }

        void handle(int handling) {
            keep();
            config.handle(handling);
            handled = true;
        }

        int goOn() {
            if (events >= MOST_EVENTS) {
                return FULL;
            }
            int passing = config.untilEvent();
            if (passing == 0) {
                return NEVER;
            }
            keep();
            config.letPass(passing);
            moments[events] = now() + passing;
            events++;
            handled = false;
            return now();
        }

        private void keep() {
            keptKeys[ringEnd] = config.key();
            keptEvents[ringEnd] = events;
            keptHandled[ringEnd] = handled;
            ringEnd = (ringEnd + 1) % MOST_KEPT;
            kept = Math.min(kept + 1, MOST_KEPT);
        }

        int takeBack() {
            if (kept == 0) {
                return STATE;
            }
            ringEnd = (ringEnd + MOST_KEPT - 1) % MOST_KEPT;
            kept--;
            config.take(keptKeys[ringEnd]);
            events = keptEvents[ringEnd];
            handled = keptHandled[ringEnd];
            return now();
        }

        int now() {
            return moments[events - 1];
        }

        int momentOf(int k) {
            return k >= 0 && k < events ? moments[k] : -1;
        }
    }

    /** All configs that plans come to, and the ways from each to the next ones. */
    private static final class Reached {
        static final int MOST = 600;

        // A glass that stands has three digits at most, one that is laid has two.
        private static final int MOST_WAYS = MOST * 81;

        // Where in a way the goal's number ends, and the moments, and the handling with its count behind.
        private static final int GOAL_BITS = 10;
        private static final int TIMED_BITS = 16;
        private static final int HANDLED_BITS = 24;

        private final Glasses glasses;
        private final Config config;
        private final long[] keys = new long[MOST];
        private final int[] order = new int[MOST];
        private final int[] earliest = new int[MOST];
        private final boolean[] done = new boolean[MOST];
        private final int[] wayStart = new int[MOST];
        private final int[] wayEnd = new int[MOST];
        private final int[] ways = new int[MOST_WAYS];
        private int count;
        private int wayCount;
        private boolean explored;
        private boolean spent;

        Reached(Glasses glasses, Config config) {
            this.glasses = glasses;
            this.config = config;
        }

        void forget() {
            explored = false;
        }

        boolean isSpent() {
            if (!explored) {
                explored = true;
                spent = false;
                count = 0;
                wayCount = 0;
                numberOf(0, 0);
                int from = 0;
                for (int round = 0; round < MOST && from >= 0 && !spent; round++) {
                    goFrom(from);
                    from = soonestLeft();
                }
            }
            return spent;
        }

        /** Going on from the soonest one first finds the earliest moment of each. */
        private int soonestLeft() {
            int soonest = -1;
            for (int c = 0; c < count; c++) {
                if (!done[c] && (soonest < 0 || earliest[c] < earliest[soonest])) {
                    soonest = c;
                }
            }
            return soonest;
        }

        private void goFrom(int from) {
            done[from] = true;
            wayStart[from] = wayCount;
            int handlings = 1 << 2 * glasses.count();
            config.take(keys[from]);
            for (int handling = 0; handling < handlings && !spent; handling++) {
                if (config.allows(handling)) {
                    goBy(from, handling);
                    config.take(keys[from]);
                }
            }
            wayEnd[from] = wayCount;
        }

        private void goBy(int from, int handling) {
            config.handle(handling);
            int passing = config.untilEvent();
            if (passing == 0) {
                return;
            }
            config.letPass(passing);
            int to = numberOf(config.key(), earliest[from] + passing);
            if (to < 0 || wayCount >= MOST_WAYS) {
                spent = true;
                return;
            }
            ways[wayCount] = Handling.countOf(handling) << HANDLED_BITS
                    | handling << TIMED_BITS | passing << GOAL_BITS | to;
            wayCount++;
        }

        /** The number of a config that is come to at a moment, -1 if it would be one too many. */
        private int numberOf(long key, int moment) {
            int place = placeOf(key);
            if (place < count && keys[order[place]] == key) {
                int known = order[place];
                earliest[known] = Math.min(earliest[known], moment);
                return known;
            }
            if (count >= MOST) {
                return -1;
            }
            System.arraycopy(order, place, order, place + 1, count - place);
            order[place] = count;
            keys[count] = key;
            earliest[count] = moment;
            done[count] = false;
            count++;
            return count - 1;
        }

        /** How many of the known keys are less. */
        private int placeOf(long key) {
            int place = 0;
            for (int step = 512; step > 0; step /= 2) {
                if (place + step <= count && keys[order[place + step - 1]] < key) {
                    place += step;
                }
            }
            return place;
        }

        int count() {
            return count;
        }

        long keyInOrder(int i) {
            return keys[order[i]];
        }

        int earliestOf(int c) {
            return earliest[c];
        }

        int startOfWays(int c) {
            return wayStart[c];
        }

        int endOfWays(int c) {
            return wayEnd[c];
        }

        int way(int w) {
            return ways[w];
        }

        static int goal(int way) {
            return way & 1023;
        }

        static int passing(int way) {
            return way >> GOAL_BITS & 63;
        }

        static int handling(int way) {
            return way >> TIMED_BITS & 255;
        }

        static int counted(int way) {
            return way >> HANDLED_BITS;
        }
    }

    /** Which spans the ways of the reached configs add up to, and at what cost. */
    private static final class Plans {
        private static final int FIRST = 0;
        private static final int NO_SUM = 10000;
        private static final long ALL_SPANS = (1L << LONGEST_SPAN + 1) - 1;

        private final Reached reached;
        // Bit s of a config: some plan goes on from it for just s moments.
        private final long[] spansFrom = new long[Reached.MOST];
        // By span, then by config: the least sum of counts on the way through such a span.
        private final short[] sums = new short[(LONGEST_SPAN + 1) * Reached.MOST];
        private final int[] handlings = new int[LONGEST_SPAN];
        private boolean spansKnown;
        private int sumsKnown;
        private int plannedSpan;
        private int length;

        Plans(Reached reached) {
            this.reached = reached;
        }

        void forget() {
            spansKnown = false;
            sumsKnown = 0;
            plannedSpan = 0;
        }

        boolean isPure(int s) {
            findSpans();
            return goesOn(FIRST, s);
        }

        int pureUpTo(int s) {
            findSpans();
            long upToS = (1L << s + 1) - 1;
            return Long.bitCount(spansFrom[FIRST] & upToS) - 1;
        }

        int soonestEnd(int s) {
            findSpans();
            int soonest = NEVER;
            for (int c = 0; c < reached.count(); c++) {
                int end = reached.earliestOf(c) + s;
                if (goesOn(c, s) && (soonest == NEVER || end < soonest)) {
                    soonest = end;
                }
            }
            return soonest;
        }

        int leastSum(int s) {
            findSums(s);
            return sums[s * Reached.MOST + FIRST];
        }

        void makePlan(int s) {
            if (plannedSpan == s) {
                return;
            }
            findSums(s);
            plannedSpan = s;
            length = 0;
            int at = FIRST;
            int left = s;
            while (left > 0 && length < LONGEST_SPAN) {
                int way = bestWay(at, left);
                handlings[length] = Reached.handling(way);
                length++;
                at = Reached.goal(way);
                left -= Reached.passing(way);
            }
        }

        int planLength() {
            return length;
        }

        int handlingAt(int i) {
            return handlings[i];
        }

        private boolean goesOn(int c, int s) {
            return (spansFrom[c] >> s & 1) != 0;
        }

        /** A round adds a handling to every plan, and a span has no more of these than moments. */
        private void findSpans() {
            if (spansKnown) {
                return;
            }
            spansKnown = true;
            Arrays.fill(spansFrom, 1L);
            boolean more = true;
            for (int round = 0; round < LONGEST_SPAN && more; round++) {
                more = false;
                for (int c = reached.count() - 1; c >= 0; c--) {
                    long spans = spansByWays(c);
                    more |= spans != spansFrom[c];
                    spansFrom[c] = spans;
                }
            }
        }

        private long spansByWays(int c) {
            long spans = 1;
            for (int w = reached.startOfWays(c); w < reached.endOfWays(c); w++) {
                int way = reached.way(w);
                spans |= spansFrom[Reached.goal(way)] << Reached.passing(way);
            }
            return spans & ALL_SPANS;
        }

        private void findSums(int s) {
            for (int span = sumsKnown; span <= s; span++) {
                for (int c = 0; c < reached.count(); c++) {
                    sums[span * Reached.MOST + c] = (short) sumFrom(c, span);
                }
            }
            sumsKnown = Math.max(sumsKnown, s + 1);
        }

        private int sumFrom(int c, int s) {
            if (s == 0) {
                return 0;
            }
            // No plan for a span that may be asked has more left here: the sum would not be used.
            if (!goesOn(c, s) || reached.earliestOf(c) + s > LONGEST_SPAN) {
                return NO_SUM;
            }
            return sumBy(bestWay(c, s), s);
        }

        private int sumBy(int way, int s) {
            int left = s - Reached.passing(way);
            return left < 0 ? NO_SUM : Reached.counted(way) + sums[left * Reached.MOST + Reached.goal(way)];
        }

        /** Ways are kept from the least handling on, so the first of the best is the plan's. */
        private int bestWay(int c, int s) {
            int best = 0;
            int least = NO_SUM;
            int end = reached.endOfWays(c);
            for (int w = reached.startOfWays(c); w < end; w++) {
                int way = reached.way(w);
                int sum = sumBy(way, s);
                if (sum < least) {
                    least = sum;
                    best = way;
                }
            }
            return best;
        }
    }

    /** Handlings that somebody claims to be a plan. */
    private static final class Claimed {
        private static final int MOST = 60;

        private final int[] handlings = new int[MOST];
        private int count;

        void add(int handling) {
            if (count < MOST) {
                handlings[count] = handling;
                count++;
            }
        }

        void change(int k, int handling) {
            handlings[k] = handling;
        }

        void removeAll() {
            count = 0;
        }

        boolean isFull() {
            return count >= MOST;
        }

        boolean has(int k) {
            return k >= 0 && k < count;
        }

        int count() {
            return count;
        }

        int goThrough(Config config) {
            int moment = 0;
            config.take(0);
            for (int k = 0; k < count; k++) {
                if (!config.allows(handlings[k])) {
                    return -2 - k;
                }
                config.handle(handlings[k]);
                int passing = config.untilEvent();
                if (passing == 0) {
                    return -2 - k;
                }
                config.letPass(passing);
                moment += passing;
            }
            return moment;
        }
    }
}
