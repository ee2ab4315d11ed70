/** Each promise of the document by itself: ordinary inputs, the edges that it names, wrong inputs. */
public final class SandBenchPromises {
    private static final int NUMBER = -1;
    private static final int FULL = -2;
    private static final int MISSING = -3;
    private static final int SIZE = -4;
    private static final int STATE = -5;
    private static final int KIND = -6;
    private static final int NEVER = -7;
    private static final int SPENT = -8;
    private static final int NONE = Integer.MIN_VALUE;

    private static final int PLAIN = 0;
    private static final int TWIN = 1;
    private static final int STOPPED = 2;
    private static final int STIFF = 3;
    private static final int LATE = 4;

    private static String promise = "";
    private static int asked;
    private static int wrong;

    public static void main(String[] args) {
        newObject();
        row();
        cellAndTold();
        lose();
        glass();
        glassRefusals();
        fill();
        clear();
        of();
        can();
        canWithKinds();
        hand();
        handDoesAllAtOnce();
        next();
        nextOfLateOnes();
        nextFull();
        undo();
        undoKeepsHundred();
        begin();
        momentAndEvent();
        reach();
        reachAtItsEdge();
        configOrder();
        pureAndSpans();
        fewestAndPlan();
        planOfEqualSums();
        soonest();
        soonestByAnyWay();
        soonestFarOff();
        spentRefusals();
        nothingThere();
        claim();
        copy();
        alterAndUnclaim();
        check();
        changesAreSeen();
        System.out.println(wrong == 0 ? "all answers are as due" : wrong + " answers are not as due");
        if (wrong != 0) {
            System.exit(1);
        }
    }

    private static void begin(String name) {
        promise = name;
        asked = 0;
    }

    private static void due(int want, int got) {
        asked++;
        if (got != want) {
            wrong++;
            System.out.println(promise + ", question " + asked + ": answered " + got + ", due is " + want);
        }
    }

    /** A bench with glasses, each told as kind, grains, with. */
    private static SandBench bench(int... glasses) {
        SandBench x = new SandBench();
        x.row(3, 2, 1);
        for (int k = 0; k < glasses.length; k += 3) {
            x.cell(3, 0, glasses[k + 1]);
            x.glass(glasses[k], 3, 0, glasses[k + 2]);
        }
        if (x.glasses() * 3 != glasses.length) {
            throw new IllegalStateException("a glass was refused");
        }
        return x;
    }

    private static void newObject() {
        begin("promise 1");
        SandBench x = new SandBench();
        for (int r = 0; r < 4; r++) {
            due(NONE, x.told(r, 0));
            due(MISSING, x.lose(r));
        }
        due(0, x.glasses());
        due(0, x.unclaim());
        due(0, x.check());
        due(0, x.moment());
        due(0, x.event(0));
        due(STATE, x.undo());
    }

    private static void row() {
        begin("promise 2");
        SandBench x = new SandBench();
        due(1, x.row(0, 0, 0));
        due(NONE, x.told(0, 0));
        due(NUMBER, x.cell(0, 0, 1));
        due(1, x.row(3, 2, 20));
        due(1, x.told(3, 0));
        due(1, x.told(3, 19));
        due(NONE, x.told(3, 20));
        due(NUMBER, x.row(-1, 0, -1));
        due(NUMBER, x.row(4, 0, -1));
        due(NUMBER, x.row(0, -1, -1));
        due(NUMBER, x.row(0, 3, -1));
        due(SIZE, x.row(0, 0, -1));
        due(SIZE, x.row(0, 0, NONE));
        due(NUMBER, x.row(0, 0, 21));
        due(NUMBER, x.row(0, 0, Integer.MAX_VALUE));
        due(1, x.cell(3, 5, 77));
        due(NUMBER, x.row(3, 1, 21));
        due(77, x.told(3, 5));
        due(1, x.row(3, 0, 6));
        due(1, x.told(3, 5));
        due(NONE, x.told(3, 6));
    }

    private static void cellAndTold() {
        begin("promises 3 and 4");
        SandBench x = new SandBench();
        for (int kind = 0; kind < 3; kind++) {
            x.row(kind, kind, 2);
        }
        int[] given = {127, 128, 255, 256, -129, 32767, 32768, 65535, -32769, Integer.MAX_VALUE, NONE};
        for (int v : given) {
            due(1, x.cell(0, 1, v));
            due(1, x.cell(1, 1, v));
            due(1, x.cell(2, 1, v));
            due((byte) v, x.told(0, 1));
            due((short) v, x.told(1, 1));
            due(v, x.told(2, 1));
        }
        due(1, x.told(0, 0));
        due(NUMBER, x.cell(-1, 0, 1));
        due(NUMBER, x.cell(4, 9, 1));
        due(MISSING, x.cell(3, -1, 1));
        due(NUMBER, x.cell(0, -1, 1));
        due(NUMBER, x.cell(0, 2, 1));
        due(NONE, x.told(-1, 0));
        due(NONE, x.told(4, 0));
        due(NONE, x.told(3, 0));
        due(NONE, x.told(0, -1));
        due(NONE, x.told(0, 2));
    }

    private static void lose() {
        begin("promise 5");
        SandBench x = new SandBench();
        x.row(2, 1, 3);
        due(NUMBER, x.lose(-1));
        due(NUMBER, x.lose(4));
        due(MISSING, x.lose(0));
        due(1, x.lose(2));
        due(NONE, x.told(2, 0));
        due(MISSING, x.cell(2, 0, 1));
        due(MISSING, x.lose(2));
        due(1, x.row(2, 0, 1));
        due(1, x.told(2, 0));
    }

    private static void glass() {
        begin("promise 6");
        SandBench x = new SandBench();
        x.row(1, 2, 3);
        x.cell(1, 1, 30);
        due(0, x.glass(PLAIN, 1, 0, 77));
        due(1, x.glass(TWIN, 1, 1, 0));
        due(2, x.glass(LATE, 1, 1, 9));
        due(3, x.glass(TWIN, 1, 0, 2));
        due(1, x.of(0, 1));
        due(30, x.of(1, 1));
        x.cell(1, 1, 7);
        due(30, x.of(1, 1));
        due(4, x.glasses());
        due(FULL, x.glass(TWIN, 1, 0, 3));
        due(NUMBER, x.glass(TWIN, 1, 0, 4));
        due(FULL, x.glass(LATE, 1, 0, 1));
        due(NUMBER, x.glass(LATE, 1, 0, 0));
        due(NUMBER, x.glass(PLAIN, 1, 3, 0));
        due(MISSING, x.glass(PLAIN, 0, 0, 0));
    }

    private static void glassRefusals() {
        begin("promise 6, refusals");
        SandBench x = new SandBench();
        x.row(0, 2, 4);
        x.cell(0, 0, 0);
        x.cell(0, 1, 31);
        x.cell(0, 2, NONE);
        due(NUMBER, x.glass(PLAIN, -1, 3, 0));
        due(NUMBER, x.glass(PLAIN, 4, 3, 0));
        due(NUMBER, x.glass(-1, 1, 3, 0));
        due(NUMBER, x.glass(5, 1, 3, 0));
        due(MISSING, x.glass(TWIN, 1, 99, 99));
        due(NUMBER, x.glass(PLAIN, 0, 0, 0));
        due(NUMBER, x.glass(PLAIN, 0, 1, 0));
        due(NUMBER, x.glass(PLAIN, 0, 2, 0));
        due(NUMBER, x.glass(PLAIN, 0, -1, 0));
        due(NUMBER, x.glass(PLAIN, 0, 4, 0));
        due(NUMBER, x.glass(TWIN, 0, 3, 0));
        due(NUMBER, x.glass(TWIN, 0, 3, -1));
        due(NUMBER, x.glass(LATE, 0, 3, 10));
        due(0, x.glasses());
        due(0, x.glass(PLAIN, 0, 3, -5));
        due(NUMBER, x.glass(TWIN, 0, 3, 1));
        due(1, x.hand(1));
        due(NUMBER, x.glass(PLAIN, 0, 0, 0));
        due(1, x.next());
    }

    private static void fill() {
        begin("promise 7");
        SandBench x = bench(PLAIN, 5, 0, LATE, 3, 2);
        x.row(0, 1, 3);
        x.cell(0, 0, 30);
        x.cell(0, 1, 31);
        x.cell(0, 2, 0);
        x.hand(5);
        due(5, x.next());
        due(NUMBER, x.fill(2, 1, 0));
        due(NUMBER, x.fill(-1, 0, 0));
        due(NUMBER, x.fill(0, 4, 0));
        due(NUMBER, x.fill(0, -1, 0));
        due(MISSING, x.fill(0, 1, 9));
        due(NUMBER, x.fill(0, 0, 1));
        due(NUMBER, x.fill(0, 0, 2));
        due(NUMBER, x.fill(0, 0, 3));
        due(NUMBER, x.fill(0, 0, -1));
        due(5, x.moment());
        due(1, x.fill(0, 0, 0));
        due(30, x.of(0, 1));
        due(3, x.of(1, 1));
        due(0, x.moment());
        due(STATE, x.undo());
        x.hand(1);
        due(30, x.next());
    }

    private static void clear() {
        begin("promise 8");
        SandBench x = bench(PLAIN, 5, 0, PLAIN, 3, 0);
        x.claim(5);
        x.hand(5);
        due(3, x.next());
        due(2, x.clear());
        due(0, x.glasses());
        due(0, x.moment());
        due(-1, x.event(1));
        due(STATE, x.undo());
        due(NUMBER, x.of(0, 0));
        due(0, x.can(1));
        due(0, x.clear());
        due(0, x.glass(STOPPED, 3, 0, 0));
        due(STOPPED, x.of(0, 0));
        due(1, x.unclaim());
    }

    private static void of() {
        begin("promises 9 and 10");
        SandBench x = bench(STIFF, 5, 3, TWIN, 6, 0, LATE, 7, 4, STOPPED, 8, 0);
        int[][] first = {{STIFF, 5, -1, 0, 0, 0}, {TWIN, 6, 0, 0, 0, 0}, {LATE, 7, 4, 0, 0, 0}, {STOPPED, 8, -1, 0, 0, 0}};
        for (int g = 0; g < 4; g++) {
            for (int what = 0; what < 6; what++) {
                due(first[g][what], x.of(g, what));
            }
        }
        due(4, x.hand(1 + 4 + 16 + 2 * 64));
        due(5, x.of(0, 3));
        due(6, x.of(1, 3));
        due(7, x.of(2, 3));
        due(4, x.of(2, 5));
        due(1, x.of(3, 4));
        due(5, x.next());
        due(0, x.of(0, 3));
        due(1, x.of(1, 3));
        due(6, x.of(2, 3));
        due(0, x.of(2, 5));
        due(NUMBER, x.of(0, 6));
        due(NUMBER, x.of(0, -1));
        due(NUMBER, x.of(4, 0));
        due(NUMBER, x.of(-1, 0));
        due(4, x.glasses());
        due(-1, bench(PLAIN, 1, 5).of(0, 2));
    }

    private static void can() {
        begin("promise 11");
        SandBench x = bench(PLAIN, 2, 0, STOPPED, 3, 0, LATE, 4, 5);
        due(NUMBER, x.can(-1));
        due(NUMBER, x.can(256));
        due(1, x.can(0));
        due(1, x.can(1 + 4 + 16));
        due(0, x.can(2));
        due(0, x.can(3));
        due(1, x.can(2 * 4 + 2 * 16));
        due(0, x.can(3 * 4));
        due(0, x.can(64));
        due(0, x.can(3 * 64));
        due(0, x.can(255));
        x.hand(2 * 4 + 2 * 16);
        due(0, x.can(4));
        due(0, x.can(2 * 4));
        due(1, x.can(3 * 4));
        due(1, x.can(1 + 3 * 4 + 3 * 16));
    }

    private static void canWithKinds() {
        begin("promise 11, kinds");
        SandBench x = bench(STIFF, 4, 0, TWIN, 2, 0, PLAIN, 3, 0, TWIN, 9, 1);
        due(0, x.can(4));
        due(1, x.can(1));
        due(0, x.can(64 + 4));
        due(1, x.can(64 + 4 + 1));
        due(0, x.can(64 + 1));
        due(0, x.can(2));
        due(0, x.can(2 * 4));
        due(0, x.can(2 * 16));
        due(0, x.can(2 * 64));
        due(2, x.hand(1 + 4));
        due(0, x.can(1));
        due(2, x.next());
        due(0, x.can(1));
        due(0, x.can(5));
        due(1, x.can(16));
        due(4, x.next());
        due(1, x.can(1));
        due(1, x.can(5));
        x = bench(STOPPED, 4, 0, TWIN, 2, 0);
        due(0, x.can(2 + 4));
        due(1, x.hand(2));
        due(0, x.can(3 + 4));
        due(0, x.can(4));
        due(1, x.can(3));
    }

    private static void hand() {
        begin("promise 12");
        SandBench x = bench(PLAIN, 2, 0, STOPPED, 3, 0);
        due(NUMBER, x.hand(-1));
        due(NUMBER, x.hand(256));
        due(KIND, x.hand(2));
        due(KIND, x.hand(16));
        due(1, x.hand(4));
        due(NUMBER, x.hand(256));
        due(STATE, x.hand(2));
        due(STATE, x.hand(0));
        due(3, x.next());
        due(2, x.hand(1 + 2 * 4));
        due(5, x.next());
        due(0, x.hand(0));
        due(STATE, x.hand(1));
        due(NEVER, x.next());
        due(4, bench(PLAIN, 1, 0, PLAIN, 1, 0, PLAIN, 1, 0, PLAIN, 1, 0).hand(85));
    }

    private static void handDoesAllAtOnce() {
        begin("promise 12, what it does");
        SandBench x = bench(PLAIN, 4, 0, STOPPED, 7, 0, LATE, 9, 3);
        x.hand(1 + 4 + 16);
        due(4, x.next());
        due(3, x.of(1, 3));
        due(8, x.of(2, 3));
        due(3, x.hand(1 + 2 * 4 + 16));
        due(4, x.of(0, 3));
        due(3, x.of(1, 3));
        due(1, x.of(1, 4));
        due(1, x.of(2, 3));
        due(3, x.of(2, 5));
        due(8, x.next());
        due(3, x.of(1, 3));
        due(0, x.of(2, 3));
        due(2, x.hand(1 + 3 * 4));
        due(0, x.of(1, 4));
        due(11, x.next());
        due(1, x.of(0, 3));
    }

    private static void next() {
        begin("promise 13");
        SandBench x = bench(PLAIN, 4, 0, PLAIN, 7, 0, STOPPED, 4, 0);
        due(NEVER, x.next());
        due(0, x.moment());
        x.hand(1 + 4 + 16);
        due(4, x.next());
        due(7, x.next());
        due(NEVER, x.next());
        due(7, x.moment());
        due(1, x.hand(16));
        due(11, x.next());
        due(1, x.hand(2 * 16));
        due(NEVER, x.next());
    }

    private static void nextOfLateOnes() {
        begin("promise 13, late ones");
        SandBench x = bench(LATE, 2, 5, PLAIN, 3, 0);
        x.hand(1 + 4);
        due(3, x.next());
        due(2, x.of(0, 5));
        due(2, x.of(0, 3));
        due(2, x.hand(2 + 4));
        due(6, x.next());
        due(2, x.of(0, 5));
        due(2, x.hand(3 + 4));
        due(9, x.next());
        due(0, x.of(0, 5));
        due(1, x.of(0, 3));
        due(1, x.hand(1));
        due(1, x.of(0, 3));
        due(5, x.of(0, 5));
        due(15, x.next());
        x = bench(LATE, 2, 5, PLAIN, 3, 0);
        x.hand(1 + 4);
        x.next();
        x.hand(1);
        due(0, x.of(0, 3));
        due(5, x.of(0, 5));
        due(NEVER, x.next());
        due(5, x.of(0, 5));
    }

    private static void nextFull() {
        begin("promise 13, 200 events");
        SandBench x = bench(PLAIN, 1, 0);
        for (int k = 1; k < 200; k++) {
            due(1, x.hand(1));
            due(k, x.next());
        }
        due(FULL, x.next());
        due(1, x.hand(1));
        due(FULL, x.next());
        due(199, x.event(199));
        due(-1, x.event(200));
        due(199, x.undo());
        due(198, x.undo());
        due(199, x.next());
        due(FULL, x.next());
        due(1, x.begin());
        x.hand(1);
        due(1, x.next());
    }

    private static void undo() {
        begin("promise 14");
        SandBench x = bench(PLAIN, 4, 0, LATE, 7, 1);
        due(STATE, x.undo());
        due(KIND, x.hand(2));
        due(STATE, x.undo());
        due(2, x.hand(5));
        due(4, x.next());
        due(8, x.next());
        due(NEVER, x.next());
        due(4, x.undo());
        due(-1, x.event(2));
        due(4, x.of(1, 3));
        due(1, x.hand(2 * 4));
        due(4, x.undo());
        due(0, x.of(1, 4));
        due(0, x.undo());
        due(4, x.of(0, 3));
        due(1, x.of(1, 5));
        due(STATE, x.hand(0));
        due(0, x.undo());
        due(0, x.of(0, 3));
        due(0, x.of(1, 5));
        due(STATE, x.undo());
        due(0, x.hand(0));
        due(0, x.undo());
        due(STATE, x.undo());
    }

    private static void undoKeepsHundred() {
        begin("promise 14, the latest 100");
        SandBench x = bench(PLAIN, 1, 0);
        for (int k = 1; k <= 60; k++) {
            x.hand(1);
            x.next();
        }
        for (int k = 1; k <= 30; k++) {
            x.undo();
        }
        due(45, x.moment());
        for (int k = 1; k <= 10; k++) {
            x.hand(1);
            x.next();
        }
        due(55, x.moment());
        for (int k = 1; k <= 45; k++) {
            due(55 - k, x.undo());
            due(55 - k, x.undo());
        }
        due(10, x.moment());
        due(STATE, x.undo());
        due(10, x.event(10));
        due(-1, x.event(11));
        due(1, x.hand(1));
        due(10, x.undo());
        due(STATE, x.undo());
    }

    private static void begin() {
        begin("promise 15");
        SandBench x = bench(STOPPED, 4, 0);
        x.hand(2);
        due(1, x.begin());
        due(0, x.of(0, 4));
        due(STATE, x.undo());
        due(1, x.hand(1));
        due(4, x.next());
        due(1, x.begin());
        due(0, x.moment());
        due(-1, x.event(1));
        due(STATE, x.undo());
        due(1, x.glasses());
        due(1, x.hand(1));
        due(4, x.of(0, 3));
    }

    private static void momentAndEvent() {
        begin("promises 16 and 17");
        SandBench x = bench(PLAIN, 4, 0, PLAIN, 7, 0);
        due(0, x.moment());
        due(0, x.event(0));
        due(-1, x.event(1));
        x.hand(5);
        due(0, x.moment());
        x.next();
        due(4, x.moment());
        x.next();
        due(7, x.moment());
        due(0, x.event(0));
        due(4, x.event(1));
        due(7, x.event(2));
        due(-1, x.event(3));
        due(-1, x.event(-1));
        due(-1, x.event(NONE));
        due(-1, x.event(Integer.MAX_VALUE));
    }

    private static void reach() {
        begin("promise 18");
        due(1, bench().reach());
        due(1, bench(PLAIN, 30, 0).reach());
        due(2, bench(PLAIN, 1, 0, STOPPED, 1, 0).reach());
        due(10, bench(PLAIN, 4, 0, PLAIN, 7, 0).reach());
        SandBench x = bench(PLAIN, 4, 0, PLAIN, 7, 0);
        x.hand(5);
        x.next();
        x.hand(1);
        due(10, x.reach());
        due(3, x.of(1, 3));
        due(7, x.next());
    }

    private static void reachAtItsEdge() {
        begin("promise 18, 600 and 601");
        SandBench x = bench(PLAIN, 9, 0, STOPPED, 8, 0, STOPPED, 10, 0);
        due(600, x.reach());
        due(0, x.config(0, 0, 0));
        due(-1, x.config(600, 0, 0));
        due(1, x.pure(8));
        due(600, bench(LATE, 9, 5, STOPPED, 3, 0, PLAIN, 1, 0).reach());
        x = bench(PLAIN, 10, 0, LATE, 4, 3, STOPPED, 6, 0);
        due(SPENT, x.reach());
        due(SPENT, x.reach());
        due(-1, x.config(0, 0, 0));
        due(SPENT, bench(LATE, 9, 5, STIFF, 4, 0, STIFF, 4, 0).reach());
    }

    private static void configOrder() {
        begin("promise 19");
        SandBench x = bench(STOPPED, 1, 0, LATE, 2, 3);
        int n = x.reach();
        long last = -1;
        int[] most = {1, 1, 0, 2, 1, 3};
        for (int i = 0; i < n; i++) {
            long key = 0;
            for (int k = 0; k < 6; k++) {
                int part = x.config(i, k / 3, k % 3);
                if (part < 0 || part > most[k]) {
                    due(0, part);
                }
                key = key * 10 + part;
            }
            due(1, key > last ? 1 : 0);
            last = key;
        }
        due(-1, x.config(n, 0, 0));
        due(-1, x.config(-1, 0, 0));
        due(-1, x.config(0, 2, 0));
        due(-1, x.config(0, -1, 0));
        due(-1, x.config(0, 0, 3));
        due(-1, x.config(0, 0, -1));
        due(-1, bench().config(0, 0, 0));
        x = bench(PLAIN, 1, 0, STOPPED, 1, 0);
        due(2, x.reach());
        int[] second = {0, 0, 0, 0, 1, 0};
        for (int k = 0; k < 6; k++) {
            due(0, x.config(0, k / 3, k % 3));
            due(second[k], x.config(1, k / 3, k % 3));
        }
    }

    private static void pureAndSpans() {
        begin("promises 20 and 21");
        SandBench x = bench(PLAIN, 4, 0, PLAIN, 7, 0);
        int[] pure = {4, 7, 8, 9, 10, 11, 12, 13, 14, 15, 16, 17, 18, 19, 20};
        int had = 0;
        for (int s = 1; s <= 20; s++) {
            boolean is = had < pure.length && pure[had] == s;
            had += is ? 1 : 0;
            due(is ? 1 : 0, x.pure(s));
            due(had, x.spans(s));
        }
        due(1, x.pure(60));
        due(55, x.spans(60));
        SandBench one = bench(LATE, 2, 9);
        due(0, one.pure(2));
        due(1, one.pure(11));
        due(1, one.pure(55));
        due(5, one.spans(60));
        due(4, one.spans(54));
        for (int s : new int[] {0, -1, 61, NONE, Integer.MAX_VALUE}) {
            due(NUMBER, x.pure(s));
            due(NUMBER, x.spans(s));
        }
    }

    private static void fewestAndPlan() {
        begin("promises 22 and 23");
        SandBench x = bench(PLAIN, 4, 0, PLAIN, 7, 0);
        due(1, x.fewest(4));
        due(2, x.fewest(8));
        due(5, x.fewest(9));
        int[] nine = {5, 1, 4, 4};
        for (int i = 0; i < 4; i++) {
            due(nine[i], x.plan(9, i));
        }
        due(-1, x.plan(9, 4));
        due(-1, x.plan(9, -1));
        due(-1, x.plan(9, Integer.MAX_VALUE));
        due(NEVER, x.fewest(1));
        due(-1, x.plan(1, 0));
        due(1, x.plan(4, 0));
        due(-1, x.plan(4, 1));
        for (int s : new int[] {0, -1, 61, NONE, Integer.MAX_VALUE}) {
            due(NUMBER, x.fewest(s));
            due(-1, x.plan(s, 0));
        }
        SandBench one = bench(PLAIN, 1, 0);
        due(60, one.fewest(60));
        due(1, one.plan(60, 59));
        due(-1, one.plan(60, 60));
    }

    private static void planOfEqualSums() {
        begin("promise 23, the lesser handling");
        SandBench x = bench(PLAIN, 2, 0, PLAIN, 3, 0);
        due(2, x.fewest(5));
        due(1, x.plan(5, 0));
        due(4, x.plan(5, 1));
        due(-1, x.plan(5, 2));
        x = bench(PLAIN, 3, 0, PLAIN, 3, 0, PLAIN, 6, 0);
        due(1, x.fewest(6));
        due(16, x.plan(6, 0));
        due(1, x.plan(3, 0));
        due(2, x.fewest(9));
        due(1, x.plan(9, 0));
        due(16, x.plan(9, 1));
        x = bench(PLAIN, 2, 0, PLAIN, 5, 0);
        due(2, x.fewest(7));
        due(1, x.plan(7, 0));
        due(4, x.plan(7, 1));
    }

    private static void soonest() {
        begin("promise 24");
        SandBench x = bench(PLAIN, 4, 0, PLAIN, 7, 0);
        due(8, x.soonest(1));
        due(9, x.soonest(2));
        due(7, x.soonest(3));
        due(4, x.soonest(4));
        due(9, x.soonest(9));
        due(60, x.soonest(60));
        for (int s : new int[] {0, -1, 61, NONE, Integer.MAX_VALUE}) {
            due(NUMBER, x.soonest(s));
        }
        SandBench even = bench(PLAIN, 4, 0, PLAIN, 6, 0);
        due(NEVER, even.soonest(1));
        due(6, even.soonest(2));
        due(NEVER, even.soonest(59));
        due(11, bench(LATE, 2, 9).soonest(11));
        due(NEVER, bench(LATE, 2, 9).soonest(2));
    }

    private static void soonestByAnyWay() {
        begin("promise 24, the sooner of many ways");
        due(11, bench(PLAIN, 2, 0, PLAIN, 11, 0, TWIN, 8, 1).soonest(1));
        due(11, bench(STOPPED, 11, 0, PLAIN, 12, 0, TWIN, 2, 1).soonest(1));
        due(13, bench(STIFF, 2, 0, PLAIN, 13, 0, TWIN, 10, 1).soonest(1));
        due(10, bench(STIFF, 4, 0, PLAIN, 12, 0, STIFF, 9, 0).soonest(2));
        SandBench x = bench(LATE, 7, 5, LATE, 8, 8, TWIN, 2, 0);
        due(32, x.soonest(1));
        due(27, x.soonest(5));
    }

    private static void soonestFarOff() {
        begin("promise 24, behind moment 60");
        SandBench x = bench(PLAIN, 29, 0, PLAIN, 30, 0);
        due(0, x.pure(1));
        due(30, x.soonest(1));
        due(31, x.soonest(2));
        due(32, x.soonest(3));
        x = bench(STIFF, 29, 0, STIFF, 30, 0);
        due(30, x.soonest(1));
        due(60, x.soonest(2));
        due(90, x.soonest(3));
        due(435, x.soonest(15));
        due(NEVER, bench(PLAIN, 28, 0, PLAIN, 30, 0).soonest(3));
    }

    private static void spentRefusals() {
        begin("promises 18 to 26, spent");
        SandBench x = bench(PLAIN, 30, 0, PLAIN, 29, 0, STOPPED, 28, 0, LATE, 27, 9);
        due(SPENT, x.reach());
        due(-1, x.config(0, 0, 0));
        for (int s : new int[] {1, 30, 60}) {
            due(SPENT, x.pure(s));
            due(SPENT, x.spans(s));
            due(SPENT, x.fewest(s));
            due(SPENT, x.soonest(s));
            due(SPENT, x.copy(s));
            due(-1, x.plan(s, 0));
        }
        due(NUMBER, x.pure(0));
        due(NUMBER, x.spans(61));
        due(NUMBER, x.fewest(0));
        due(NUMBER, x.soonest(61));
        due(NUMBER, x.copy(0));
        due(1, x.hand(1));
        due(30, x.next());
        due(1, x.claim(4));
        due(29, x.check());
        due(4, x.clear());
        due(1, x.reach());
    }

    private static void nothingThere() {
        begin("promises 11 to 29, no glasses");
        SandBench x = new SandBench();
        due(1, x.can(0));
        due(0, x.can(1));
        due(0, x.hand(0));
        due(STATE, x.hand(0));
        due(NEVER, x.next());
        due(1, x.reach());
        due(-1, x.config(0, 0, 0));
        due(0, x.pure(1));
        due(0, x.spans(60));
        due(NEVER, x.fewest(1));
        due(-1, x.plan(1, 0));
        due(NEVER, x.soonest(1));
        due(NEVER, x.copy(1));
        due(1, x.claim(0));
        due(-2, x.check());
    }

    private static void claim() {
        begin("promise 25");
        SandBench x = new SandBench();
        due(NUMBER, x.claim(-1));
        due(NUMBER, x.claim(256));
        for (int k = 1; k <= 60; k++) {
            due(k, x.claim(k % 2 == 0 ? 255 : 0));
        }
        due(FULL, x.claim(0));
        due(NUMBER, x.claim(256));
        due(60, x.unclaim());
        due(1, x.claim(7));
    }

    private static void copy() {
        begin("promise 26");
        SandBench x = bench(PLAIN, 4, 0, PLAIN, 7, 0);
        x.claim(3);
        due(NUMBER, x.copy(0));
        due(NUMBER, x.copy(61));
        due(NEVER, x.copy(1));
        due(1, x.unclaim());
        x.claim(3);
        due(4, x.copy(9));
        due(9, x.check());
        due(5, x.claim(1));
        due(1, x.copy(4));
        due(4, x.check());
        due(1, x.unclaim());
        for (int s = 1; s <= 60; s++) {
            if (x.pure(s) == 1) {
                x.copy(s);
                due(s, x.check());
            }
        }
        SandBench one = bench(PLAIN, 1, 0);
        due(60, one.copy(60));
        due(60, one.check());
        due(FULL, one.claim(0));
    }

    private static void alterAndUnclaim() {
        begin("promises 27 and 28");
        SandBench x = bench(PLAIN, 4, 0, PLAIN, 7, 0);
        due(0, x.unclaim());
        due(NUMBER, x.alter(0, 0));
        x.claim(1);
        x.claim(1);
        due(8, x.check());
        due(1, x.alter(1, 4));
        due(11, x.check());
        due(1, x.alter(0, 255));
        due(-2, x.check());
        due(NUMBER, x.alter(2, 0));
        due(NUMBER, x.alter(-1, 0));
        due(NUMBER, x.alter(0, 256));
        due(NUMBER, x.alter(0, -1));
        due(-2, x.check());
        due(2, x.unclaim());
        due(NUMBER, x.alter(0, 0));
        due(0, x.check());
        due(0, x.unclaim());
    }

    private static void check() {
        begin("promise 29");
        SandBench x = bench(STIFF, 4, 0, TWIN, 7, 0, STOPPED, 2, 0);
        due(0, x.check());
        x.claim(5);
        due(4, x.check());
        x.claim(0);
        due(7, x.check());
        x.claim(16);
        due(9, x.check());
        x.claim(4);
        due(-5, x.check());
        x.alter(3, 0);
        due(-5, x.check());
        x.alter(3, 16);
        due(11, x.check());
        x.alter(1, 1);
        due(9, x.check());
        x.hand(1);
        due(4, x.next());
        x.check();
        due(4, x.moment());
        x.alter(0, 0);
        due(-2, x.check());
        x.alter(0, 64);
        due(-2, x.check());
        SandBench one = bench(LATE, 30, 9);
        for (int k = 1; k <= 60; k++) {
            one.claim(1);
            due(39 * k, one.check());
        }
        one.alter(59, 2);
        due(-61, one.check());
    }

    private static void changesAreSeen() {
        begin("terms 2 and 3, other glasses");
        SandBench x = bench(PLAIN, 4, 0);
        due(1, x.plan(4, 0));
        due(2, x.fewest(8));
        due(1, x.claim(4));
        due(-2, x.check());
        x.cell(3, 0, 7);
        due(1, x.glass(PLAIN, 3, 0, 0));
        due(7, x.check());
        due(10, x.reach());
        due(5, x.plan(9, 0));
        due(4, x.plan(7, 0));
        due(7, x.soonest(3));
        due(1, x.plan(8, 0));
        x.cell(3, 0, 8);
        due(1, x.fill(1, 3, 0));
        due(NEVER, x.fewest(9));
        due(4, x.plan(8, 0));
        due(1, x.fewest(8));
        due(NEVER, x.soonest(3));
        due(2, x.clear());
        due(0, x.pure(4));
        due(-2, x.check());
    }
}
