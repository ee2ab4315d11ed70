import java.util.ArrayDeque;
import java.util.ArrayList;
import java.util.Arrays;
import java.util.Deque;
import java.util.HashMap;
import java.util.List;
import java.util.Map;
import java.util.TreeMap;
import java.util.TreeSet;

/** Long runs of mixed calls, each answer held against a slow bench that goes moment by moment. */
public final class SandBenchModel {
    private static final String[] CALLS = {
        "row", "cell", "told", "lose", "glass", "fill", "clear", "of", "glasses",
        "can", "hand", "next", "undo", "begin", "moment", "event",
        "reach", "config", "pure", "spans", "fewest", "plan", "soonest",
        "claim", "copy", "alter", "unclaim", "check"};
    // How often each call comes: in a run of all sorts, in one by hand, and in one about plans.
    private static final int[][] WEIGHTS = {
        {4, 12, 6, 2, 6, 4, 1, 12, 2, 8, 20, 20, 8, 1, 4, 6, 4, 12, 6, 4, 8, 12, 8, 8, 4, 4, 1, 6},
        {0, 1, 0, 0, 0, 0, 0, 20, 0, 40, 300, 300, 60, 1, 10, 30, 0, 1, 0, 0, 0, 2, 0, 4, 1, 2, 0, 2},
        {0, 4, 1, 0, 1, 3, 0, 4, 1, 4, 10, 10, 2, 0, 1, 1, 6, 50, 10, 10, 20, 40, 40, 4, 8, 4, 1, 8}};
    private static final int RUNS = 180;

    private static int wrong;

    public static void main(String[] args) {
        for (int run = 0; run < RUNS && wrong < 20; run++) {
            play(run, new Dice(run + 1));
        }
        System.out.println(wrong == 0 ? "all answers are as due" : wrong + " answers are not as due");
        if (wrong != 0) {
            System.exit(1);
        }
    }

    private static void play(int run, Dice dice) {
        SandBench bench = new SandBench();
        Slow slow = new Slow();
        int[] weights = WEIGHTS[run % WEIGHTS.length];
        int grains = 2 + dice.below(dice.below(3) == 0 ? 29 : 9);
        int made = 1 + dice.below(4);
        for (int k = 0; k < 512 && wrong < 20; k++) {
            int call = k == 0 ? 0 : k < 6 ? 1 : k < 6 + made ? 4 : choose(dice, weights);
            int[] a = k == 0 ? new int[] {0, dice.below(3), 5}
                    : k < 6 ? new int[] {0, k - 1, 1 + dice.below(grains)}
                    : k < 6 + made ? suitableGlass(dice, k - 6)
                    : arguments(call, dice, grains, slow);
            long got = ask(bench, call, a);
            long due = slow.ask(call, a);
            if (got != due) {
                wrong++;
                System.out.println("run " + run + ", call " + k + ": " + CALLS[call] + Arrays.toString(a)
                        + " answered " + got + ", due is " + due);
            }
        }
    }

    private static int choose(Dice dice, int[] weights) {
        int sum = 0;
        for (int w : weights) {
            sum += w;
        }
        int at = dice.below(sum);
        int call = 0;
        while (at >= weights[call]) {
            at -= weights[call];
            call++;
        }
        return call;
    }

    private static int[] suitableGlass(Dice dice, int g) {
        int kind = dice.below(5);
        if (kind == 1 && g == 0) {
            kind = 0;
        }
        return new int[] {kind, 0, dice.below(5), kind == 1 ? dice.below(g) : 1 + dice.below(dice.below(2) == 0 ? 9 : 3)};
    }

    /** Mostly numbers that may be, now and then ones just beside these or far off. */
    private static int[] arguments(int call, Dice dice, int grains, Slow slow) {
        switch (CALLS[call]) {
            case "row":
                return new int[] {dice.near(4), dice.near(3), dice.below(8) == 0 ? dice.near(21) : 3 + dice.below(3)};
            case "cell":
                return new int[] {dice.near(4), dice.near(4), dice.below(10) == 0 ? dice.far() : 1 + dice.below(grains)};
            case "told":
                return new int[] {dice.near(4), dice.near(5)};
            case "lose":
                return new int[] {dice.near(4)};
            case "glass":
                return new int[] {dice.near(5), dice.near(4), dice.near(4), dice.below(4) == 0 ? dice.near(11) : dice.near(3)};
            case "fill":
                return new int[] {dice.near(4), dice.near(4), dice.near(4)};
            case "of":
                return new int[] {dice.near(4), dice.near(6)};
            case "can":
            case "hand":
            case "claim":
                return new int[] {handling(dice, slow)};
            case "event":
                return new int[] {dice.near(slow.moments.size())};
            case "config":
                return new int[] {dice.near(slow.all().ways.size()), dice.near(4), dice.near(3)};
            case "pure":
            case "spans":
            case "fewest":
            case "soonest":
            case "copy":
                return new int[] {1 + dice.near(60)};
            case "plan":
                return new int[] {1 + dice.near(60), dice.near(6)};
            case "alter":
                return new int[] {dice.near(slow.claimed.size() + 1), handling(dice, slow)};
            default:
                return new int[0];
        }
    }

    /** Often one that is allowed by hand, so that runs get somewhere. */
    private static int handling(Dice dice, Slow slow) {
        int made = dice.near(256);
        int tries = dice.below(4) == 0 ? 0 : 60;
        for (int k = 0; k < tries && !(made >= 0 && made < 256 && slow.stand.allows(made)); k++) {
            made = dice.below(1 << 2 * slow.stand.ones.size());
        }
        return made;
    }

    private static long ask(SandBench x, int call, int[] a) {
        switch (CALLS[call]) {
            case "row": return x.row(a[0], a[1], a[2]);
            case "cell": return x.cell(a[0], a[1], a[2]);
            case "told": return x.told(a[0], a[1]);
            case "lose": return x.lose(a[0]);
            case "glass": return x.glass(a[0], a[1], a[2], a[3]);
            case "fill": return x.fill(a[0], a[1], a[2]);
            case "clear": return x.clear();
            case "of": return x.of(a[0], a[1]);
            case "glasses": return x.glasses();
            case "can": return x.can(a[0]);
            case "hand": return x.hand(a[0]);
            case "next": return x.next();
            case "undo": return x.undo();
            case "begin": return x.begin();
            case "moment": return x.moment();
            case "event": return x.event(a[0]);
            case "reach": return x.reach();
            case "config": return x.config(a[0], a[1], a[2]);
            case "pure": return x.pure(a[0]);
            case "spans": return x.spans(a[0]);
            case "fewest": return x.fewest(a[0]);
            case "plan": return x.plan(a[0], a[1]);
            case "soonest": return x.soonest(a[0]);
            case "claim": return x.claim(a[0]);
            case "copy": return x.copy(a[0]);
            case "alter": return x.alter(a[0], a[1]);
            case "unclaim": return x.unclaim();
            default: return x.check();
        }
    }

    /** The same numbers in each session, so that a fault can be found again. */
    private static final class Dice {
        private static final int[] FAR = {-1, 0, 31, 127, 128, 255, 256, -129, 32767, 32768, 65566,
            Integer.MAX_VALUE, Integer.MIN_VALUE, -1000000};
        private long state;

        Dice(int seed) {
            state = seed * 7919L + 17;
        }

        int below(int n) {
            state = state * 6364136223846793005L + 1442695040888963407L;
            return (int) ((state >>> 33) % n);
        }

        int near(int n) {
            int at = below(40);
            return at == 0 ? far() : at == 1 ? -1 : at == 2 ? n : below(n);
        }

        int far() {
            return FAR[below(FAR.length)];
        }
    }

    /** One glass and how it stands. */
    private static final class One {
        int kind;
        int grains;
        int with;
        int above;
        boolean laid;
        int waits;

        One copied() {
            One o = new One();
            o.kind = kind;
            o.grains = grains;
            o.with = with;
            o.above = above;
            o.laid = laid;
            o.waits = waits;
            return o;
        }

        boolean falls() {
            return !laid && waits == 0 && above > 0;
        }
    }

    /** Glasses as they stand, compared by a text whose order is the document's. */
    private static final class Stand {
        final List<One> ones = new ArrayList<>();

        Stand copied() {
            Stand s = new Stand();
            for (One o : ones) {
                s.ones.add(o.copied());
            }
            return s;
        }

        Stand first() {
            Stand s = copied();
            for (One o : s.ones) {
                o.above = 0;
                o.laid = false;
                o.waits = 0;
            }
            return s;
        }

        String text() {
            StringBuilder b = new StringBuilder();
            for (One o : ones) {
                b.append(String.format("%02d%d%d", o.above, o.laid ? 1 : 0, o.waits));
            }
            return b.toString();
        }

        boolean allows(int handling) {
            int[] digits = {handling % 4, handling / 4 % 4, handling / 16 % 4, handling / 64};
            for (int g = 0; g < 4; g++) {
                if (digits[g] == 0) {
                    continue;
                }
                if (g >= ones.size()) {
                    return false;
                }
                One o = ones.get(g);
                boolean fine = digits[g] == 3 ? o.laid
                        : digits[g] == 2 ? (o.kind == 2 || o.kind == 4) && !o.laid
                        : !o.laid && !(o.kind == 3 && o.falls()) && (o.kind != 1 || digits[o.with] == 1);
                if (!fine) {
                    return false;
                }
            }
            return true;
        }

        int handle(int handling) {
            int count = 0;
            int rest = handling;
            for (One o : ones) {
                int digit = rest % 4;
                rest /= 4;
                count += digit == 0 ? 0 : 1;
                if (digit == 1) {
                    o.above = o.grains - o.above;
                    o.waits = o.kind == 4 ? o.with : o.waits;
                } else if (digit != 0) {
                    o.laid = digit == 2;
                }
            }
            return count;
        }

        /** Moments until the next event, which is gone on to; 0 if there is none. */
        int pass() {
            for (int moments = 1; ; moments++) {
                boolean hope = false;
                boolean event = false;
                for (One o : ones) {
                    hope |= o.falls() || !o.laid && o.above > 0 && o.waits > 0;
                }
                if (!hope) {
                    return 0;
                }
                for (One o : ones) {
                    if (o.falls()) {
                        o.above--;
                        event |= o.above == 0;
                    } else if (!o.laid && o.waits > 0) {
                        o.waits--;
                    }
                }
                if (event) {
                    return moments;
                }
            }
        }
    }

    /** A way from one config to the next one. */
    private record Way(int handling, int count, int passing, String to) { }

    /** The least sum at a moment in a config, and the handlings of the plan that has it. */
    private record Best(int sum, String handlings) {
        boolean betterThan(Best other) {
            return other == null || sum < other.sum || sum == other.sum && handlings.compareTo(other.handlings) < 0;
        }
    }

    /** All that plans come to with some glasses. */
    private static final class All {
        final TreeMap<String, List<Way>> ways = new TreeMap<>();
        final Map<String, Stand> stands = new HashMap<>();
        final Map<String, Integer> earliest = new HashMap<>();
        final String start;
        final List<Map<String, Best>> bests = new ArrayList<>();
        boolean spent;

        All(Stand glasses) {
            Stand first = glasses.first();
            start = first.text();
            Deque<String> open = new ArrayDeque<>();
            stands.put(start, first);
            open.add(start);
            while (!open.isEmpty() && !spent) {
                String from = open.remove();
                ways.put(from, waysFrom(from, open));
                spent = stands.size() > 600;
            }
            if (!spent) {
                findEarliest();
                findBests();
            }
        }

        private List<Way> waysFrom(String from, Deque<String> open) {
            List<Way> found = new ArrayList<>();
            for (int h = 0; h < 256; h++) {
                Stand at = stands.get(from).copied();
                if (!at.allows(h)) {
                    continue;
                }
                int count = at.handle(h);
                int passing = at.pass();
                if (passing > 0) {
                    found.add(new Way(h, count, passing, at.text()));
                    if (stands.putIfAbsent(at.text(), at) == null) {
                        open.add(at.text());
                    }
                }
            }
            return found;
        }

        /** Moment by moment, the configs that have an event then. */
        private void findEarliest() {
            TreeMap<Integer, TreeSet<String>> due = new TreeMap<>();
            due.computeIfAbsent(0, k -> new TreeSet<>()).add(start);
            while (!due.isEmpty()) {
                int moment = due.firstKey();
                for (String c : due.remove(moment)) {
                    if (earliest.putIfAbsent(c, moment) == null) {
                        for (Way w : ways.get(c)) {
                            due.computeIfAbsent(moment + w.passing, k -> new TreeSet<>()).add(w.to);
                        }
                    }
                }
            }
        }

        private void findBests() {
            for (int m = 0; m <= 60; m++) {
                bests.add(new HashMap<>());
            }
            bests.get(0).put(start, new Best(0, ""));
            for (int m = 0; m < 60; m++) {
                for (Map.Entry<String, Best> e : bests.get(m).entrySet()) {
                    for (Way w : ways.get(e.getKey())) {
                        if (m + w.passing <= 60) {
                            Best b = new Best(e.getValue().sum + w.count, e.getValue().handlings + (char) w.handling);
                            if (b.betterThan(bests.get(m + w.passing).get(w.to))) {
                                bests.get(m + w.passing).put(w.to, b);
                            }
                        }
                    }
                }
            }
        }

        Best best(int s) {
            Best best = null;
            for (Best b : bests.get(s).values()) {
                best = b.betterThan(best) ? b : best;
            }
            return best;
        }

        int soonest(int s) {
            List<String> all = new ArrayList<>(ways.keySet());
            all.sort((p, q) -> earliest.get(p) - earliest.get(q));
            Map<String, Boolean> known = new HashMap<>();
            for (String c : all) {
                if (goesOn(c, s, known)) {
                    return earliest.get(c) + s;
                }
            }
            return -7;
        }

        private boolean goesOn(String c, int s, Map<String, Boolean> known) {
            if (s <= 0) {
                return s == 0;
            }
            Boolean was = known.get(c + s);
            if (was == null) {
                was = false;
                for (Way w : ways.get(c)) {
                    was = was || goesOn(w.to, s - w.passing, known);
                }
                known.put(c + s, was);
            }
            return was;
        }
    }

    /** A run by hand as it was ahead of a step. */
    private record Step(Stand stand, List<Integer> moments, boolean handled) { }

    /** The document's calls, done the slow way. */
    private static final class Slow {
        private final int[][] rows = new int[4][];
        private final int[] rowKinds = new int[4];
        private Stand stand = new Stand();
        private List<Integer> moments = new ArrayList<>(List.of(0));
        private boolean handled;
        private final Deque<Step> steps = new ArrayDeque<>();
        private final List<Integer> claimed = new ArrayList<>();
        private All all;

        int ask(int call, int[] a) {
            switch (CALLS[call]) {
                case "row": return row(a[0], a[1], a[2]);
                case "cell": return cell(a[0], a[1], a[2]);
                case "told": return hasNumber(a[0], a[1]) ? rows[a[0]][a[1]] : Integer.MIN_VALUE;
                case "lose": return lose(a[0]);
                case "glass": return glass(a[0], a[1], a[2], a[3]);
                case "fill": return fill(a[0], a[1], a[2]);
                case "clear": return clear();
                case "of": return of(a[0], a[1]);
                case "glasses": return stand.ones.size();
                case "can": return badHandling(a[0]) ? -1 : stand.allows(a[0]) ? 1 : 0;
                case "hand": return hand(a[0]);
                case "next": return next();
                case "undo": return undo();
                case "begin": begin(); return 1;
                case "moment": return moment();
                case "event": return a[0] < 0 || a[0] >= moments.size() ? -1 : moments.get(a[0]);
                case "reach": return all().spent ? -8 : all().ways.size();
                case "config": return config(a[0], a[1], a[2]);
                case "plan": return plan(a[0], a[1]);
                case "pure":
                case "spans":
                case "fewest":
                case "soonest":
                case "copy": return ofSpan(CALLS[call], a[0]);
                case "claim": return claim(a[0]);
                case "alter": return alter(a[0], a[1]);
                case "unclaim": return unclaim();
                default: return check();
            }
        }

        private boolean badRow(int r) {
            return r < 0 || r > 3;
        }

        private boolean badHandling(int h) {
            return h < 0 || h > 255;
        }

        private boolean hasNumber(int r, int i) {
            return !badRow(r) && rows[r] != null && i >= 0 && i < rows[r].length;
        }

        private boolean hasGrains(int r, int i) {
            return hasNumber(r, i) && rows[r][i] >= 1 && rows[r][i] <= 30;
        }

        private int row(int r, int kind, int n) {
            if (badRow(r) || kind < 0 || kind > 2) {
                return -1;
            }
            if (n < 0 || n > 20) {
                return n < 0 ? -4 : -1;
            }
            rows[r] = new int[n];
            Arrays.fill(rows[r], 1);
            rowKinds[r] = kind;
            return 1;
        }

        private int cell(int r, int i, int v) {
            if (badRow(r) || rows[r] == null) {
                return badRow(r) ? -1 : -3;
            }
            if (!hasNumber(r, i)) {
                return -1;
            }
            int lost = rowKinds[r] == 0 ? 24 : rowKinds[r] == 1 ? 16 : 0;
            rows[r][i] = v << lost >> lost;
            return 1;
        }

        private int lose(int r) {
            if (badRow(r) || rows[r] == null) {
                return badRow(r) ? -1 : -3;
            }
            rows[r] = null;
            return 1;
        }

        private int glass(int kind, int r, int i, int with) {
            if (badRow(r) || kind < 0 || kind > 4) {
                return -1;
            }
            if (rows[r] == null) {
                return -3;
            }
            boolean badWith = kind == 1 && (with < 0 || with >= stand.ones.size()) || kind == 4 && (with < 1 || with > 9);
            if (!hasGrains(r, i) || badWith) {
                return -1;
            }
            if (stand.ones.size() == 4) {
                return -2;
            }
            One o = new One();
            o.kind = kind;
            o.grains = rows[r][i];
            o.with = kind == 1 || kind == 4 ? with : -1;
            stand.ones.add(o);
            all = null;
            begin();
            return stand.ones.size() - 1;
        }

        private int fill(int g, int r, int i) {
            if (g < 0 || g >= stand.ones.size() || badRow(r)) {
                return -1;
            }
            if (rows[r] == null || !hasGrains(r, i)) {
                return rows[r] == null ? -3 : -1;
            }
            stand.ones.get(g).grains = rows[r][i];
            all = null;
            begin();
            return 1;
        }

        private int clear() {
            int n = stand.ones.size();
            stand = new Stand();
            all = null;
            begin();
            return n;
        }

        private int of(int g, int what) {
            if (g < 0 || g >= stand.ones.size() || what < 0 || what > 5) {
                return -1;
            }
            One o = stand.ones.get(g);
            return new int[] {o.kind, o.grains, o.with, o.above, o.laid ? 1 : 0, o.waits}[what];
        }

        private void begin() {
            stand = stand.first();
            moments = new ArrayList<>(List.of(0));
            handled = false;
            steps.clear();
        }

        private void keep() {
            steps.addLast(new Step(stand.copied(), new ArrayList<>(moments), handled));
            if (steps.size() > 100) {
                steps.removeFirst();
            }
        }

        private int moment() {
            return moments.get(moments.size() - 1);
        }

        private int hand(int h) {
            if (badHandling(h) || handled || !stand.allows(h)) {
                return badHandling(h) ? -1 : handled ? -5 : -6;
            }
            keep();
            handled = true;
            return stand.handle(h);
        }

        private int next() {
            int passing = stand.copied().pass();
            if (moments.size() == 200 || passing == 0) {
                return moments.size() == 200 ? -2 : -7;
            }
            keep();
            stand.pass();
            handled = false;
            moments.add(moment() + passing);
            return moment();
        }

        private int undo() {
            if (steps.isEmpty()) {
                return -5;
            }
            Step step = steps.removeLast();
            stand = step.stand;
            moments = step.moments;
            handled = step.handled;
            return moment();
        }

        private All all() {
            if (all == null) {
                all = new All(stand);
            }
            return all;
        }

        private int config(int i, int g, int what) {
            if (all().spent || i < 0 || i >= all().ways.size() || g < 0 || g >= stand.ones.size() || what < 0 || what > 2) {
                return -1;
            }
            String text = new ArrayList<>(all().ways.keySet()).get(i);
            One o = all().stands.get(text).ones.get(g);
            return what == 0 ? o.above : what == 1 ? (o.laid ? 1 : 0) : o.waits;
        }

        private int ofSpan(String call, int s) {
            if (s < 1 || s > 60 || all().spent) {
                return s < 1 || s > 60 ? -1 : -8;
            }
            Best best = all().best(s);
            switch (call) {
                case "pure":
                    return best == null ? 0 : 1;
                case "spans":
                    int pure = 0;
                    for (int k = 1; k <= s; k++) {
                        pure += all().best(k) == null ? 0 : 1;
                    }
                    return pure;
                case "fewest":
                    return best == null ? -7 : best.sum;
                case "soonest":
                    return all().soonest(s);
                default:
                    if (best == null) {
                        return -7;
                    }
                    claimed.clear();
                    for (char h : best.handlings.toCharArray()) {
                        claimed.add((int) h);
                    }
                    return claimed.size();
            }
        }

        private int plan(int s, int i) {
            Best best = s < 1 || s > 60 || all().spent ? null : all().best(s);
            return best == null || i < 0 || i >= best.handlings.length() ? -1 : best.handlings.charAt(i);
        }

        private int claim(int h) {
            if (badHandling(h) || claimed.size() == 60) {
                return badHandling(h) ? -1 : -2;
            }
            claimed.add(h);
            return claimed.size();
        }

        private int alter(int k, int h) {
            if (k < 0 || k >= claimed.size() || badHandling(h)) {
                return -1;
            }
            claimed.set(k, h);
            return 1;
        }

        private int unclaim() {
            int n = claimed.size();
            claimed.clear();
            return n;
        }

        private int check() {
            Stand at = stand.first();
            int moment = 0;
            for (int k = 0; k < claimed.size(); k++) {
                if (!at.allows(claimed.get(k))) {
                    return -2 - k;
                }
                at.handle(claimed.get(k));
                int passing = at.pass();
                if (passing == 0) {
                    return -2 - k;
                }
                moment += passing;
            }
            return moment;
        }
    }
}
