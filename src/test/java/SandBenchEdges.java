import java.lang.reflect.InvocationTargetException;
import java.lang.reflect.Method;
import java.util.ArrayList;
import java.util.HashMap;
import java.util.List;
import java.util.Map;
import java.util.regex.Matcher;
import java.util.regex.Pattern;

/**
 * Each sentence of the document that names a boundary case, by itself. An edge tells the sentence and a run of
 * calls on a new object with what is due; where nothing is told as due, the call must only not be refused.
 */
public final class SandBenchEdges {
    private static final Map<String, Integer> NAMES = names();
    private static final Map<String, Method> CALLS = calls();
    private static final Pattern CALL = Pattern.compile("\\s*(\\w+)\\(([^)]*)\\)(?:\\s*=\\s*(-?\\w+))?\\s*");

    private static int wrong;

    public static void main(String[] args) {
        newObject();
        row();
        cell();
        cellCasts();
        told();
        lose();
        glass();
        glassGrains();
        glassWith();
        glassRefusalsAtOnce();
        fill();
        clear();
        of();
        handlingsThatAreNone();
        digitsOfGlassesThatAreNotThere();
        turned();
        laidAndSetUp();
        doneAtOnce();
        falling();
        waiting();
        runningOut();
        hand();
        next();
        nextNever();
        nextFull();
        undo();
        undoHundred();
        begin();
        runBegunAnew();
        momentAndEvent();
        reach();
        reachSpent();
        reachOftenAnew();
        config();
        configOrder();
        pureAndSpans();
        fewest();
        plan();
        planOfSeveral();
        soonest();
        spans1To60();
        spentAtOnce();
        claim();
        copy();
        alter();
        unclaim();
        check();
        checkFails();
        refusedChangesNothing();
        changesOnlyItsOwn();
        objectsAreApart();
        fiveHundredAndTwelveCalls();
        noCallThrows();
        System.out.println(wrong == 0 ? "all answers are as due" : wrong + " answers are not as due");
        if (wrong != 0) {
            System.exit(1);
        }
    }

    // ---- promise 1

    private static void newObject() {
        edge("1: ROWS are MISSING", """
            told(0, 0) = MIN  told(1, 0) = MIN  told(2, 0) = MIN  told(3, 0) = MIN
            cell(0, 0, 1) = MISSING  cell(1, 0, 1) = MISSING  cell(2, 0, 1) = MISSING  cell(3, 0, 1) = MISSING
            lose(0) = MISSING  lose(1) = MISSING  lose(2) = MISSING  lose(3) = MISSING
            glass(0, 0, 0, 0) = MISSING  glass(0, 3, 0, 0) = MISSING
            """);
        edge("1: there are no GLASSES", """
            glasses() = 0  of(0, 0) = NUMBER  row(0, 0, 1) = 1  fill(0, 0, 0) = NUMBER  glass(1, 0, 0, 0) = NUMBER
            clear() = 0  glass(0, 0, 0, 0) = 0
            """);
        edge("1: nothing is CLAIMED", "check() = 0  alter(0, 0) = NUMBER  unclaim() = 0  claim(0) = 1");
        edge("3: BY HAND: at first the first ones, at an EVENT that has not been HANDLED", """
            moment() = 0  event(0) = 0  event(1) = -1  undo() = STATE  next() = NEVER  hand(0) = 0  hand(0) = STATE
            """);
    }

    // ---- promises 2 to 5

    private static void row() {
        edge("2: NUMBER: r isn't 0 to 3", """
            row(-1, 0, 1) = NUMBER  row(0, 0, 1) = 1  row(1, 0, 1) = 1  row(2, 0, 1) = 1  row(3, 0, 1) = 1
            row(4, 0, 1) = NUMBER  row(MIN, 0, 1) = NUMBER  row(MAX, 0, 1) = NUMBER
            """);
        edge("2: NUMBER: kind not 0 to 2", """
            row(0, -1, 1) = NUMBER  row(0, 3, 1) = NUMBER  row(0, MIN, 1) = NUMBER  row(0, MAX, 1) = NUMBER
            told(0, 0) = MIN  row(0, 0, 1) = 1  row(1, 1, 1) = 1  row(2, 2, 1) = 1
            """);
        edge("2: SIZE: n is below 0", """
            row(0, 0, -1) = SIZE  row(1, 1, MIN) = SIZE  lose(0) = MISSING  lose(1) = MISSING
            row(0, 0, 0) = 1  told(0, 0) = MIN  cell(0, 0, 1) = NUMBER  lose(0) = 1
            """);
        edge("2: NUMBER: n is above 20", """
            row(0, 0, 21) = NUMBER  row(0, 1, 21) = NUMBER  row(0, 2, MAX) = NUMBER  lose(0) = MISSING
            row(0, 0, 19) = 1  told(0, 18) = 1  told(0, 19) = MIN
            row(0, 0, 20) = 1  told(0, 19) = 1  told(0, 20) = MIN
            """);
        edge("2: of several refusals the first: r or kind ahead of n", """
            row(-1, 0, -1) = NUMBER  row(4, 0, -1) = NUMBER  row(0, -1, -1) = NUMBER  row(0, 3, -1) = NUMBER
            row(4, 3, -1) = NUMBER  row(4, 0, 21) = NUMBER  row(0, 3, 21) = NUMBER
            """);
        StringBuilder all = new StringBuilder("row(1, 2, 20) = 1 ");
        for (int i = 0; i < 20; i++) {
            all.append("told(1, ").append(i).append(") = 1 ");
        }
        edge("2: with n numbers, all 1", all.toString());
        edge("2: a ROW that was there is there anew, all 1", """
            row(0, 2, 20) = 1  cell(0, 0, 7) = 1  cell(0, 19, 8) = 1
            row(0, 2, 1) = 1  told(0, 0) = 1  told(0, 1) = MIN  told(0, 19) = MIN
            row(0, 2, 20) = 1  told(0, 0) = 1  told(0, 19) = 1
            cell(0, 19, 9) = 1  lose(0) = 1  row(0, 2, 20) = 1  told(0, 19) = 1
            """);
        edge("2: of that kind, also if it was of another", """
            row(0, 2, 1) = 1  cell(0, 0, 70000) = 1  told(0, 0) = 70000
            row(0, 0, 1) = 1  cell(0, 0, 70000) = 1  told(0, 0) = 112
            row(0, 1, 1) = 1  cell(0, 0, 70000) = 1  told(0, 0) = 4464
            """);
    }

    private static void cell() {
        edge("3: NUMBER: r isn't 0 to 3", """
            row(0, 0, 1)  row(3, 0, 1)
            cell(-1, 0, 5) = NUMBER  cell(0, 0, 5) = 1  cell(3, 0, 6) = 1  cell(4, 0, 5) = NUMBER
            cell(MIN, 0, 5) = NUMBER  cell(MAX, 0, 5) = NUMBER  told(0, 0) = 5  told(3, 0) = 6
            """);
        edge("3: MISSING", "row(1, 0, 1)  cell(0, 0, 5) = MISSING  cell(1, 0, 5) = 1  lose(1)  cell(1, 0, 5) = MISSING");
        edge("3: NUMBER: it has no number i", """
            row(0, 2, 3)  row(1, 2, 20)  row(2, 2, 0)
            cell(0, -1, 5) = NUMBER  cell(0, 0, 5) = 1  cell(0, 2, 6) = 1  cell(0, 3, 7) = NUMBER
            cell(0, MIN, 5) = NUMBER  cell(0, MAX, 5) = NUMBER
            cell(1, 19, 8) = 1  cell(1, 20, 8) = NUMBER  cell(2, 0, 8) = NUMBER  cell(2, -1, 8) = NUMBER
            told(0, 0) = 5  told(0, 1) = 1  told(0, 2) = 6  told(1, 19) = 8  told(1, 18) = 1
            row(1, 2, 2)  cell(1, 2, 8) = NUMBER
            """);
        edge("3: of several refusals the first: r, MISSING, i", """
            cell(-1, -1, 5) = NUMBER  cell(4, 20, 5) = NUMBER  cell(0, -1, 5) = MISSING  cell(3, 20, 5) = MISSING
            cell(2, MAX, 5) = MISSING
            """);
    }

    private static void cellCasts() {
        int[] given = {0, 127, 128, 129, 255, 256, 257, 300, -1, -127, -128, -129, -256, -257,
            32766, 32767, 32768, 65535, 65536, 65537, -32768, -32769, -65536, 16777216, MAX, MAX - 1, MIN, MIN + 1};
        StringBuilder calls = new StringBuilder("row(0, 0, 2) row(1, 1, 2) row(2, 2, 2) ");
        for (int v : given) {
            int asByte = Math.floorMod(v + 128L, 256) - 128;
            int asShort = Math.floorMod(v + 32768L, 65536) - 32768;
            int[] told = {asByte, asShort, v};
            for (int r = 0; r < 3; r++) {
                calls.append("cell(" + r + ", 1, " + v + ") = 1  told(" + r + ", 1) = " + told[r] + " ");
            }
        }
        edge("3: becomes v, as its kind casts it", calls + "told(0, 0) = 1  told(1, 0) = 1  told(2, 0) = 1");
    }

    private static void told() {
        edge("4: -2^31 if r isn't 0 to 3", """
            row(0, 0, 1)  row(3, 0, 1)
            told(-1, 0) = MIN  told(0, 0) = 1  told(3, 0) = 1  told(4, 0) = MIN  told(MIN, 0) = MIN  told(MAX, 0) = MIN
            """);
        edge("4: -2^31 if it is MISSING", "row(1, 0, 1)  told(2, 0) = MIN  told(1, 0) = 1  lose(1)  told(1, 0) = MIN");
        edge("4: -2^31 if it has none such", """
            row(0, 2, 0)  row(1, 2, 1)  row(2, 2, 20)
            told(0, 0) = MIN  told(0, -1) = MIN  told(1, -1) = MIN  told(1, 0) = 1  told(1, 1) = MIN
            told(2, 19) = 1  told(2, 20) = MIN  told(2, MIN) = MIN  told(2, MAX) = MIN
            """);
    }

    private static void lose() {
        edge("5: NUMBER: r isn't 0 to 3", """
            row(0, 0, 1)  row(3, 0, 1)
            lose(-1) = NUMBER  lose(4) = NUMBER  lose(MIN) = NUMBER  lose(MAX) = NUMBER  lose(0) = 1  lose(3) = 1
            """);
        edge("5: MISSING: it is", "lose(0) = MISSING  row(0, 0, 0)  lose(0) = 1  lose(0) = MISSING  told(0, 0) = MIN");
        edge("5: ROW r becomes MISSING, that one alone", """
            row(0, 0, 1)  row(1, 0, 1)  row(2, 0, 1)  lose(1) = 1
            told(0, 0) = 1  told(1, 0) = MIN  told(2, 0) = 1  cell(1, 0, 5) = MISSING  glass(0, 1, 0, 0) = MISSING
            glass(0, 2, 0, 0) = 0  lose(2)  of(0, 1) = 1  fill(0, 2, 0) = MISSING
            """);
    }

    // ---- promises 6 to 10

    private static void glass() {
        edge("6: its number; FULL", """
            row(0, 0, 1)
            glass(0, 0, 0, 0) = 0  glasses() = 1  glass(2, 0, 0, 0) = 1  glasses() = 2
            glass(3, 0, 0, 0) = 2  glasses() = 3  glass(4, 0, 0, 1) = 3  glasses() = 4
            glass(0, 0, 0, 0) = FULL  glass(1, 0, 0, 3) = FULL  glass(4, 0, 0, 9) = FULL  glasses() = 4
            clear() = 4  glass(3, 0, 0, 0) = 0
            """);
        edge("6: NUMBER: r isn't 0 to 3", """
            row(0, 0, 1)  row(3, 0, 1)
            glass(0, -1, 0, 0) = NUMBER  glass(0, 4, 0, 0) = NUMBER  glass(0, MIN, 0, 0) = NUMBER
            glass(0, MAX, 0, 0) = NUMBER  glasses() = 0  glass(0, 0, 0, 0) = 0  glass(0, 3, 0, 0) = 1
            """);
        edge("6: NUMBER: kind not 0 to 4", """
            row(0, 0, 1)
            glass(-1, 0, 0, 1) = NUMBER  glass(5, 0, 0, 1) = NUMBER  glass(MIN, 0, 0, 1) = NUMBER
            glass(MAX, 0, 0, 1) = NUMBER  glasses() = 0
            glass(0, 0, 0, 1) = 0  glass(4, 0, 0, 1) = 1  of(0, 0) = 0  of(1, 0) = 4
            """);
        edge("6: MISSING", "row(0, 0, 1)  glass(0, 1, 0, 0) = MISSING  lose(0)  glass(0, 0, 0, 0) = MISSING  glasses() = 0");
        edge("6: NUMBER: the ROW has no number i", """
            row(0, 0, 2)  row(1, 0, 0)  row(2, 0, 20)
            glass(0, 0, -1, 0) = NUMBER  glass(0, 0, 2, 0) = NUMBER  glass(0, 1, 0, 0) = NUMBER
            glass(0, 2, 20, 0) = NUMBER  glass(0, 0, MIN, 0) = NUMBER  glass(0, 0, MAX, 0) = NUMBER  glasses() = 0
            glass(0, 0, 0, 0) = 0  glass(0, 0, 1, 0) = 1  glass(0, 2, 19, 0) = 2
            """);
    }

    private static void glassGrains() {
        edge("6: NUMBER: it isn't 1 to 30", """
            row(0, 2, 8)  cell(0, 0, 0)  cell(0, 1, 1)  cell(0, 2, 30)  cell(0, 3, 31)  cell(0, 4, -1)
            cell(0, 5, MIN)  cell(0, 6, MAX)  cell(0, 7, 29)
            glass(0, 0, 0, 0) = NUMBER  glass(0, 0, 3, 0) = NUMBER  glass(0, 0, 4, 0) = NUMBER
            glass(0, 0, 5, 0) = NUMBER  glass(0, 0, 6, 0) = NUMBER  glasses() = 0
            glass(0, 0, 1, 0) = 0  glass(0, 0, 2, 0) = 1  glass(0, 0, 7, 0) = 2
            of(0, 1) = 1  of(1, 1) = 30  of(2, 1) = 29
            """);
        edge("6: as many GRAINS as number i tells: what a ROW of bytes has cast", """
            row(0, 0, 6)  cell(0, 0, 256)  cell(0, 1, 257)  cell(0, 2, 286)  cell(0, 3, 287)  cell(0, 4, -226)  cell(0, 5, 255)
            glass(0, 0, 0, 0) = NUMBER  glass(0, 0, 3, 0) = NUMBER  glass(0, 0, 5, 0) = NUMBER  glasses() = 0
            glass(0, 0, 1, 0) = 0  glass(0, 0, 2, 0) = 1  glass(0, 0, 4, 0) = 2
            of(0, 1) = 1  of(1, 1) = 30  of(2, 1) = 30
            """);
        edge("6: as many GRAINS as number i tells: what a ROW of shorts has cast", """
            row(0, 1, 6)  cell(0, 0, 65536)  cell(0, 1, 65537)  cell(0, 2, 65566)  cell(0, 3, 65567)  cell(0, 4, 257)
            cell(0, 5, -65506)
            glass(0, 0, 0, 0) = NUMBER  glass(0, 0, 3, 0) = NUMBER  glass(0, 0, 4, 0) = NUMBER  glasses() = 0
            glass(0, 0, 1, 0) = 0  glass(0, 0, 2, 0) = 1  glass(0, 0, 5, 0) = 2
            of(0, 1) = 1  of(1, 1) = 30  of(2, 1) = 30
            """);
        edge("6: as many GRAINS as number i tells: a ROW of ints casts nothing", """
            row(0, 2, 3)  cell(0, 0, 257)  cell(0, 1, 65537)  cell(0, 2, -226)
            glass(0, 0, 0, 0) = NUMBER  glass(0, 0, 1, 0) = NUMBER  glass(0, 0, 2, 0) = NUMBER  glasses() = 0
            """);
        edge("6: a GLASS keeps its GRAINS when its ROW changes", """
            row(0, 0, 1)  cell(0, 0, 7)  glass(0, 0, 0, 0) = 0  cell(0, 0, 9)  of(0, 1) = 7  row(0, 0, 0)  of(0, 1) = 7
            lose(0)  of(0, 1) = 7  hand(1)  next() = 7
            """);
    }

    private static void glassWith() {
        edge("6: NUMBER: of a TWIN with is no GLASS", """
            row(0, 0, 1)
            glass(1, 0, 0, 0) = NUMBER  glass(1, 0, 0, -1) = NUMBER  glass(0, 0, 0, 0) = 0
            glass(1, 0, 0, -1) = NUMBER  glass(1, 0, 0, 1) = NUMBER  glass(1, 0, 0, 0) = 1
            glass(1, 0, 0, 2) = NUMBER  glass(1, 0, 0, MIN) = NUMBER  glass(1, 0, 0, MAX) = NUMBER
            glass(1, 0, 0, 1) = 2  glass(1, 0, 0, 3) = NUMBER  glass(1, 0, 0, 0) = 3
            of(1, 2) = 0  of(2, 2) = 1  of(3, 2) = 0  clear() = 4  glass(1, 0, 0, 0) = NUMBER
            """);
        edge("6: NUMBER: of a LATE one with isn't 1 to 9", """
            row(0, 0, 1)
            glass(4, 0, 0, 0) = NUMBER  glass(4, 0, 0, 10) = NUMBER  glass(4, 0, 0, -1) = NUMBER
            glass(4, 0, 0, MIN) = NUMBER  glass(4, 0, 0, MAX) = NUMBER  glasses() = 0
            glass(4, 0, 0, 1) = 0  glass(4, 0, 0, 9) = 1  glass(4, 0, 0, 8) = 2
            of(0, 2) = 1  of(1, 2) = 9  of(2, 2) = 8
            """);
        edge("6: else it counts nothing", """
            row(0, 0, 1)
            glass(0, 0, 0, MIN) = 0  glass(2, 0, 0, MAX) = 1  glass(3, 0, 0, -1) = 2  of(0, 2) = -1  of(1, 2) = -1
            of(2, 2) = -1  glass(0, 0, 0, 3) = 3  of(3, 2) = -1
            """);
    }

    private static void glassRefusalsAtOnce() {
        edge("6: of several refusals the first: r or kind, MISSING", """
            glass(0, -1, -1, 0) = NUMBER  glass(5, 0, 0, 0) = NUMBER  glass(-1, 0, -1, 0) = NUMBER
            glass(0, 0, -1, 0) = MISSING  glass(0, 3, 20, 0) = MISSING  glass(1, 0, 0, 0) = MISSING
            glass(4, 0, 0, 0) = MISSING  glass(4, 0, 99, 10) = MISSING
            """);
        edge("6: of several refusals the first: all of them ahead of FULL", """
            row(0, 2, 3)  cell(0, 1, 0)  cell(0, 2, 31)
            glass(0, 0, 0, 0) = 0  glass(0, 0, 0, 0) = 1  glass(0, 0, 0, 0) = 2  glass(0, 0, 0, 0) = 3
            glass(0, -1, 0, 0) = NUMBER  glass(0, 4, 0, 0) = NUMBER  glass(-1, 0, 0, 0) = NUMBER
            glass(5, 0, 0, 0) = NUMBER  glass(0, 1, 0, 0) = MISSING
            glass(0, 0, -1, 0) = NUMBER  glass(0, 0, 3, 0) = NUMBER
            glass(0, 0, 1, 0) = NUMBER  glass(0, 0, 2, 0) = NUMBER
            glass(1, 0, 0, -1) = NUMBER  glass(1, 0, 0, 4) = NUMBER  glass(4, 0, 0, 0) = NUMBER  glass(4, 0, 0, 10) = NUMBER
            glass(1, 0, 0, 0) = FULL  glass(1, 0, 0, 3) = FULL  glass(4, 0, 0, 1) = FULL  glass(4, 0, 0, 9) = FULL
            glass(2, 0, 0, -1) = FULL  glasses() = 4
            """);
    }

    private static void fill() {
        edge("7: NUMBER: there is no such GLASS", """
            row(0, 0, 1)  cell(0, 0, 5)  fill(0, 0, 0) = NUMBER  glass(0, 0, 0, 0)  glass(0, 0, 0, 0)  cell(0, 0, 6)
            fill(-1, 0, 0) = NUMBER  fill(2, 0, 0) = NUMBER  fill(4, 0, 0) = NUMBER  fill(MIN, 0, 0) = NUMBER
            fill(MAX, 0, 0) = NUMBER  of(0, 1) = 5  of(1, 1) = 5
            fill(1, 0, 0) = 1  of(0, 1) = 5  of(1, 1) = 6  fill(0, 0, 0) = 1  of(0, 1) = 6
            """);
        edge("7: NUMBER: r isn't 0 to 3", """
            row(0, 0, 1)  row(3, 0, 1)  glass(0, 0, 0, 0)  cell(0, 0, 8)  cell(3, 0, 9)
            fill(0, -1, 0) = NUMBER  fill(0, 4, 0) = NUMBER  fill(0, MIN, 0) = NUMBER  fill(0, MAX, 0) = NUMBER
            of(0, 1) = 1  fill(0, 0, 0) = 1  of(0, 1) = 8  fill(0, 3, 0) = 1  of(0, 1) = 9
            """);
        edge("7: MISSING", "bench(PLAIN 5)  fill(0, 0, 0) = MISSING  lose(3)  fill(0, 3, 0) = MISSING  of(0, 1) = 5");
        edge("7: NUMBER: the ROW has no number i", """
            bench(PLAIN 5)  row(0, 0, 2)  row(1, 0, 0)
            fill(0, 0, -1) = NUMBER  fill(0, 0, 2) = NUMBER  fill(0, 1, 0) = NUMBER  fill(0, 0, MIN) = NUMBER
            fill(0, 0, MAX) = NUMBER  of(0, 1) = 5  cell(0, 1, 2)  fill(0, 0, 1) = 1  of(0, 1) = 2  fill(0, 0, 0) = 1
            of(0, 1) = 1
            """);
        edge("7: NUMBER: it isn't 1 to 30", """
            bench(PLAIN 5)  row(0, 2, 4)  cell(0, 0, 0)  cell(0, 1, 31)  cell(0, 2, -1)  cell(0, 3, 286)
            fill(0, 0, 0) = NUMBER  fill(0, 0, 1) = NUMBER  fill(0, 0, 2) = NUMBER  fill(0, 0, 3) = NUMBER  of(0, 1) = 5
            cell(0, 0, 1)  cell(0, 1, 30)  fill(0, 0, 0) = 1  of(0, 1) = 1  fill(0, 0, 1) = 1  of(0, 1) = 30
            row(1, 0, 2)  cell(1, 0, 286)  cell(1, 1, 287)  fill(0, 1, 1) = NUMBER  fill(0, 1, 0) = 1  of(0, 1) = 30
            row(1, 1, 2)  cell(1, 0, 65537)  cell(1, 1, 257)  fill(0, 1, 1) = NUMBER  fill(0, 1, 0) = 1  of(0, 1) = 1
            """);
        edge("7: of several refusals the first: no such GLASS or r, MISSING, i", """
            bench(PLAIN 5)
            fill(1, 0, 0) = NUMBER  fill(-1, 0, -1) = NUMBER  fill(0, 4, -1) = NUMBER  fill(1, 4, 0) = NUMBER
            fill(0, 0, -1) = MISSING  fill(0, 2, 20) = MISSING
            """);
        edge("7: the GRAINS become another number, all else of the GLASS stays", """
            bench(LATE 5 4, TWIN 6 0)  row(0, 0, 1)  cell(0, 0, 9)
            fill(0, 0, 0) = 1  of(0, 0) = 4  of(0, 1) = 9  of(0, 2) = 4  of(1, 1) = 6
            fill(1, 0, 0) = 1  of(1, 0) = 1  of(1, 1) = 9  of(1, 2) = 0  glasses() = 2
            hand(5)  of(0, 3) = 9  of(0, 5) = 4  of(1, 3) = 9
            """);
    }

    private static void clear() {
        edge("8: how many there were", """
            clear() = 0  row(0, 0, 1)  glass(0, 0, 0, 0)  clear() = 1  glasses() = 0  clear() = 0
            glass(4, 0, 0, 9) = 0  glass(1, 0, 0, 0) = 1  glass(0, 0, 0, 0) = 2  glass(2, 0, 0, 0) = 3
            clear() = 4  of(0, 0) = NUMBER  of(3, 0) = NUMBER  can(1) = 0  told(0, 0) = 1
            glass(0, 0, 0, 0) = 0  of(0, 0) = 0  of(0, 2) = -1  hand(1)  of(0, 5) = 0  next() = 1
            """);
        edge("8: all GLASSES are gone, no ROW and nothing that is CLAIMED", """
            bench(PLAIN 4, PLAIN 7)  copy(9) = 4  clear() = 2  told(3, 0) = 7  check() = -2  unclaim() = 4
            """);
    }

    private static void of() {
        edge("9: NUMBER: there is none such", """
            of(0, 0) = NUMBER  bench(PLAIN 5, STIFF 6)
            of(-1, 0) = NUMBER  of(0, 0) = 0  of(1, 0) = 3  of(2, 0) = NUMBER  of(3, 5) = NUMBER  of(4, 0) = NUMBER
            of(MIN, 0) = NUMBER  of(MAX, 0) = NUMBER
            """);
        edge("9: NUMBER: another what", """
            bench(LATE 5 6)  hand(1)
            of(0, -1) = NUMBER  of(0, 0) = 4  of(0, 1) = 5  of(0, 2) = 6  of(0, 3) = 5  of(0, 4) = 0  of(0, 5) = 6
            of(0, 6) = NUMBER  of(0, MIN) = NUMBER  of(0, MAX) = NUMBER
            """);
        edge("9: 2 its TWIN or DELAY (-1 for other KINDS)", """
            bench(PLAIN 5, STOPPED 5, STIFF 5, TWIN 5 2)  of(0, 2) = -1  of(1, 2) = -1  of(2, 2) = -1  of(3, 2) = 2
            clear()  bench(LATE 5 1, TWIN 5 0, LATE 5 9, TWIN 5 1)  of(0, 2) = 1  of(1, 2) = 0  of(2, 2) = 9  of(3, 2) = 1
            """);
        edge("9: 4 1 if it is LAID there, else 0", """
            bench(STOPPED 5, LATE 5 1)  of(0, 4) = 0  of(1, 4) = 0  hand(8)  of(0, 4) = 0  of(1, 4) = 1
            begin()  hand(2)  of(0, 4) = 1  of(1, 4) = 0
            """);
        edge("10: how many GLASSES there are", """
            glasses() = 0  row(0, 0, 1)  glass(0, 0, 0, 0)  glasses() = 1  glass(0, 0, 9, 0) = NUMBER  glasses() = 1
            glass(0, 0, 0, 0)  glass(0, 0, 0, 0)  glass(0, 0, 0, 0)  glasses() = 4  glass(0, 0, 0, 0) = FULL  glasses() = 4
            clear()  glasses() = 0
            """);
    }

    // ---- terms 1 and 2: what may be handled, and what becomes of it

    private static void handlingsThatAreNone() {
        edge("11: NUMBER: it isn't 0 to 255", """
            can(-1) = NUMBER  can(0) = 1  can(1) = 0  can(255) = 0  can(256) = NUMBER  can(MIN) = NUMBER  can(MAX) = NUMBER
            bench(STOPPED 5, LATE 5 3, STOPPED 5, LATE 5 9)
            can(-1) = NUMBER  can(0) = 1  can(170) = 1  can(255) = 0  can(256) = NUMBER  can(426) = NUMBER
            hand(170) = 4  can(255) = 1  can(254) = 0  can(256) = NUMBER  can(0) = 1
            """);
        edge("12: NUMBER: it isn't 0 to 255", """
            bench(STOPPED 5, LATE 5 3, STOPPED 5, PLAIN 5)
            hand(-1) = NUMBER  hand(256) = NUMBER  hand(MIN) = NUMBER  hand(MAX) = NUMBER  hand(320) = NUMBER
            hand(106) = 4  next() = 5  hand(63) = 3  next() = NEVER
            clear()  bench(STOPPED 1, STOPPED 1, STOPPED 1, STOPPED 1)  hand(106) = 4  next() = 1  hand(191) = 4
            """);
        edge("25: NUMBER: it isn't 0 to 255", """
            claim(-1) = NUMBER  claim(256) = NUMBER  claim(MIN) = NUMBER  claim(MAX) = NUMBER  unclaim() = 0
            claim(0) = 1  claim(255) = 2  claim(-1) = NUMBER  claim(256) = NUMBER  unclaim() = 2
            """);
    }

    private static void digitsOfGlassesThatAreNotThere() {
        edge("2: there is no digit for a GLASS that isn't there", """
            can(0) = 1  can(1) = 0  can(2) = 0  can(3) = 0  can(64) = 0  hand(1) = KIND
            bench(STOPPED 5)  can(1) = 1  can(4) = 0  can(5) = 0  can(8) = 0  can(12) = 0  can(64) = 0  hand(5) = KIND
            bench(STOPPED 5)  can(5) = 1  can(16) = 0  can(21) = 0  can(32) = 0  can(69) = 0  hand(21) = KIND
            bench(STOPPED 5)  can(21) = 1  can(64) = 0  can(85) = 0  can(128) = 0  can(192) = 0  hand(85) = KIND
            bench(STOPPED 5)  can(85) = 1  can(64) = 1  can(128) = 1  can(192) = 0  hand(85) = 4
            """);
        edge("2: COUNT of a HANDLING: how many digits aren't 0", """
            bench(STOPPED 1, STOPPED 1, STOPPED 1, STOPPED 1)
            hand(0) = 0  undo()  hand(1) = 1  undo()  hand(2) = 1  undo()  hand(64) = 1  undo()  hand(128) = 1  undo()
            hand(65) = 2  undo()  hand(130) = 2  undo()  hand(37) = 3  undo()  hand(85) = 4  undo()
            hand(170) = 4  undo()  hand(106) = 4  next() = 1  hand(3) = 1  undo()  hand(127) = 4  undo()  hand(63) = 3
            """);
    }

    private static void turned() {
        edge("2: each that is turned stands", """
            bench(STOPPED 5, LATE 5 1)  can(1) = 1  can(4) = 1  hand(10) = 2  can(1) = 0  can(4) = 0  can(15) = 1
            begin()  hand(2)  can(1) = 0  can(4) = 1  can(5) = 0
            """);
        edge("2: is no STIFF one that FALLS", """
            bench(STIFF 2, PLAIN 1)  can(1) = 1  hand(5) = 2  can(1) = 0  next() = 1  of(0, 3) = 1  can(1) = 0  can(5) = 0
            can(4) = 1  hand(1) = KIND  hand(0) = 0  next() = 2  of(0, 3) = 0  can(1) = 1  hand(1) = 1  of(0, 3) = 2
            """);
        edge("2: no other KIND is kept from being turned as it FALLS", """
            bench(PLAIN 1, STOPPED 3, LATE 3 1, TWIN 3 0)  hand(85) = 4  can(1) = 1  next() = 1  can(1) = 1  can(4) = 1
            can(16) = 1  can(65) = 1  can(85) = 1
            """);
        edge("2: if it is a TWIN, its TWIN is turned, too", """
            bench(PLAIN 5, TWIN 5 0, TWIN 5 1)  can(1) = 1  can(4) = 0  can(5) = 1  can(16) = 0  can(17) = 0  can(20) = 0
            can(21) = 1  hand(4) = KIND  hand(17) = KIND  hand(21) = 3
            """);
        edge("2: its TWIN is turned: laid or set up is not turned", """
            bench(STOPPED 5, TWIN 5 0)  can(5) = 1  can(6) = 0  can(7) = 0  hand(2) = 1  can(4) = 0  can(5) = 0  can(6) = 0
            can(7) = 0  can(3) = 1
            """);
        edge("2: a TWIN of a STIFF one that FALLS", """
            bench(STIFF 5, TWIN 2 0, PLAIN 3)  hand(5) = 2  next() = 2  can(5) = 0  can(4) = 0  next() = 5  can(5) = 1
            """);
    }

    private static void laidAndSetUp() {
        edge("2: each that is laid is STOPPED or LATE", """
            bench(PLAIN 5, TWIN 5 0, STIFF 5, STOPPED 5)  can(2) = 0  can(8) = 0  can(9) = 0  can(32) = 0  can(128) = 1
            hand(2) = KIND  hand(8) = KIND  hand(32) = KIND  hand(128) = 1  of(3, 4) = 1
            clear()  bench(LATE 5 1)  can(2) = 1
            """);
        edge("2: each that is laid stands", """
            bench(STOPPED 5, LATE 5 1, PLAIN 1)  can(2) = 1  can(8) = 1  hand(26) = 3  can(2) = 0  can(8) = 0  next() = 1
            can(2) = 0  can(8) = 0  hand(2) = KIND  hand(8) = KIND
            """);
        edge("2: each that is set up is LAID", """
            bench(STOPPED 5, LATE 5 1, PLAIN 1, STIFF 2)  can(3) = 0  can(12) = 0  can(48) = 0  can(192) = 0  hand(3) = KIND
            hand(18) = 2  can(3) = 1  can(12) = 0  next() = 1  hand(15) = KIND  hand(3) = 1  of(0, 4) = 0  can(3) = 0
            """);
        edge("2: one that is laid is LAID, one that is set up stands: ABOVE stays", """
            bench(STOPPED 5, PLAIN 2)  hand(5) = 2  next() = 2  of(0, 3) = 3  hand(6) = 2  of(0, 3) = 3  of(0, 4) = 1
            next() = 4  of(0, 3) = 3  hand(3) = 1  of(0, 3) = 3  of(0, 4) = 0  next() = 7  of(0, 3) = 0
            """);
    }

    private static void doneAtOnce() {
        edge("2: ABOVE of one that is turned becomes its GRAINS less that: from 0 and to 0", """
            bench(LATE 30 9, PLAIN 1)  hand(5) = 2  of(0, 3) = 30  of(1, 3) = 1  next() = 1  of(0, 3) = 30  of(0, 5) = 8
            hand(1) = 1  of(0, 3) = 0  of(0, 5) = 9
            """);
        edge("2: ABOVE of one that is turned becomes its GRAINS less that: in between", """
            bench(PLAIN 30, PLAIN 1)  hand(5)  next() = 1  of(0, 3) = 29  hand(1)  of(0, 3) = 1  next() = 2  of(0, 3) = 0
            """);
        edge("2: if it is LATE it WAITS its DELAY, also if it WAITS already; no other KIND does", """
            bench(LATE 3 9, PLAIN 1, STOPPED 3, STIFF 3)  hand(85)  of(0, 5) = 9  of(1, 5) = 0  of(2, 5) = 0  of(3, 5) = 0
            next() = 1  of(0, 5) = 8  hand(1)  of(0, 5) = 9  next() = 3  of(0, 5) = 7
            """);
        edge("2: one that is laid or set up keeps what it WAITS", """
            bench(LATE 3 9, PLAIN 1)  hand(5)  next() = 1  hand(6)  of(0, 5) = 8  next() = 2  of(0, 5) = 8
            hand(7)  of(0, 5) = 8  next() = 3  of(0, 5) = 7
            """);
        edge("2: all is done at once", """
            bench(STOPPED 4, PLAIN 4, LATE 4 2, TWIN 3 1)  hand(86) = 4  of(0, 4) = 1  of(1, 3) = 4  of(2, 3) = 4  of(2, 5) = 2
            of(3, 3) = 3  next() = 3  hand(39) = 3  of(0, 4) = 0  of(1, 3) = 3  of(2, 4) = 1  of(2, 3) = 3
            """);
    }

    private static void falling() {
        edge("1: it FALLS if it stands", """
            bench(STOPPED 5, PLAIN 2)  hand(5)  next() = 2  hand(6)  next() = 4  of(0, 3) = 3  of(0, 4) = 1
            """);
        edge("1: it FALLS if it WAITS 0", """
            bench(LATE 5 2, PLAIN 1)  hand(5)  next() = 1  of(0, 3) = 5  of(0, 5) = 1  hand(4)  next() = 2  of(0, 3) = 5
            of(0, 5) = 0  hand(4)  next() = 3  of(0, 3) = 4  of(0, 5) = 0
            """);
        edge("1: it FALLS if it has some ABOVE", """
            bench(STIFF 1, PLAIN 3)  hand(5)  can(1) = 0  next() = 1  of(0, 3) = 0  can(1) = 1  next() = 3  of(0, 3) = 0
            """);
        edge("1: each that FALLS has one less ABOVE when a MOMENT passes", """
            bench(PLAIN 1, PLAIN 30, PLAIN 29)  hand(21)  next() = 1  of(0, 3) = 0  of(1, 3) = 29  of(2, 3) = 28
            """);
    }

    private static void waiting() {
        edge("1: each that stands and WAITS more than 0 WAITS one less", """
            bench(LATE 2 1, PLAIN 1)  hand(5)  of(0, 5) = 1  next() = 1  of(0, 5) = 0  of(0, 3) = 2
            hand(4)  next() = 2  of(0, 5) = 0  of(0, 3) = 1
            """);
        edge("1: one that is LAID doesn't WAIT less", """
            bench(LATE 2 1, PLAIN 1)  hand(2)  next() = NEVER  begin()  hand(5)  next() = 1  undo()  undo()
            clear()  bench(LATE 2 3, PLAIN 1)  hand(5)  next() = 1  hand(6)  next() = 2  hand(4)  next() = 3  of(0, 5) = 2
            hand(3)  next() = 7  of(0, 3) = 0
            """);
        edge("1: one that has nothing ABOVE WAITS less, too", """
            bench(LATE 2 3, PLAIN 1, PLAIN 5)  hand(21)  next() = 1  hand(1)  of(0, 3) = 0  of(0, 5) = 3  next() = 5
            of(0, 5) = 0  of(0, 3) = 0
            """);
    }

    private static void runningOut() {
        edge("1: a GLASS RUNS OUT at a MOMENT if it fell to 0 ABOVE by its passing", """
            bench(PLAIN 1, PLAIN 2)  hand(5)  next() = 1  next() = 2  next() = NEVER  event(1) = 1  event(2) = 2  event(3) = -1
            """);
        edge("1: two that RUN OUT at a MOMENT make one EVENT", """
            bench(PLAIN 4, STOPPED 4, LATE 3 1, PLAIN 5)  hand(85)  next() = 4  of(0, 3) = 0  of(1, 3) = 0  of(2, 3) = 0
            of(3, 3) = 1  next() = 5  event(1) = 4  event(2) = 5
            """);
        edge("1: the end of a WAIT is no EVENT, nor is a turn to 0 ABOVE", """
            bench(LATE 4 2, PLAIN 1)  hand(1)  next() = 6  begin()  hand(5)  next() = 1  hand(1)  of(0, 3) = 0  next() = NEVER
            """);
    }

    // ---- promises 12 to 17

    private static void hand() {
        edge("12: STATE: the EVENT was HANDLED", """
            bench(PLAIN 5)  hand(0) = 0  hand(0) = STATE  hand(1) = STATE  next() = NEVER  hand(1) = STATE  undo() = 0
            hand(1) = 1  hand(1) = STATE  of(0, 3) = 5  next() = 5  hand(1) = 1  hand(0) = STATE
            """);
        edge("12: KIND, and the EVENT has not been HANDLED by that", """
            bench(PLAIN 5)  hand(2) = KIND  hand(3) = KIND  hand(4) = KIND  undo() = STATE  of(0, 3) = 0  hand(1) = 1
            """);
        edge("12: of several refusals the first: NUMBER, STATE, KIND", """
            bench(PLAIN 5)  hand(1) = 1  hand(256) = NUMBER  hand(-1) = NUMBER  hand(2) = STATE  hand(255) = STATE  next() = 5
            hand(256) = NUMBER  hand(255) = KIND
            """);
        edge("11: as it stands, whether the EVENT was HANDLED or not", """
            bench(STOPPED 5)  can(1) = 1  can(2) = 1  can(3) = 0  hand(2) = 1  can(1) = 0  can(2) = 0  can(3) = 1  can(0) = 1
            """);
    }

    private static void next() {
        edge("13: until the next EVENT (which has not been HANDLED then): its MOMENT", """
            bench(PLAIN 4, PLAIN 7)  hand(5) = 2  next() = 4  hand(0) = 0  next() = 7  hand(0) = 0  hand(0) = STATE
            """);
        edge("13: also at an EVENT that was not HANDLED", """
            bench(PLAIN 4, PLAIN 7)  hand(5) = 2  next() = 4  next() = 7  undo() = 4  undo() = 0  undo() = 0  undo() = STATE
            """);
        edge("13: the least and the greatest way to the next EVENT", """
            bench(PLAIN 1)  hand(1)  next() = 1  clear()  bench(LATE 30 9)  hand(1)  next() = 39  hand(1)  next() = 78
            """);
    }

    private static void nextNever() {
        edge("2: if nothing FALLS and nothing that stands and has some ABOVE WAITS, there is no next EVENT", """
            next() = NEVER  hand(0)  next() = NEVER
            bench(PLAIN 4)  next() = NEVER  hand(1)  next() = 4  next() = NEVER  hand(0)  next() = NEVER
            """);
        edge("2: no next EVENT, as all that have some ABOVE are LAID", """
            bench(STOPPED 4, PLAIN 1)  hand(5)  next() = 1  hand(2)  next() = NEVER  moment() = 1  of(0, 3) = 3
            """);
        edge("2: no next EVENT, as what WAITS is LAID", """
            bench(LATE 4 3, PLAIN 1)  hand(5)  next() = 1  hand(2)  of(0, 5) = 2  next() = NEVER  of(0, 5) = 2
            """);
        edge("2: no next EVENT, as what WAITS has nothing ABOVE", """
            bench(LATE 4 3, PLAIN 1)  hand(5)  next() = 1  hand(1)  next() = NEVER  of(0, 5) = 3
            """);
        edge("2: a next EVENT, as one stands, has some ABOVE and WAITS", "bench(LATE 1 1)  hand(1)  next() = 2  moment() = 2");
        edge("13: NEVER changes nothing: the EVENT is as much HANDLED as it was", """
            bench(PLAIN 4)  next() = NEVER  hand(0) = 0  next() = NEVER  hand(1) = STATE  undo() = 0  undo() = STATE
            """);
    }

    /** Four events with five calls, so that 200 events and more can be had with one object. */
    private static final String FOUR_EVENTS = "hand(85) = 4 next() next() next() next() ";
    private static final String UP_TO_198 = "bench(PLAIN 1, PLAIN 2, PLAIN 3, PLAIN 4) "
            + FOUR_EVENTS.repeat(49) + "hand(85) = 4  next() = 197  next() = 198 ";

    private static void nextFull() {
        edge("13: FULL: there were 200 EVENTS", UP_TO_198 + """
            event(198) = 198  event(199) = -1  next() = 199  event(199) = 199  event(200) = -1
            next() = FULL  moment() = 199  next() = FULL  event(200) = -1  of(3, 3) = 1
            """);
        edge("13: FULL leaves the EVENT as much HANDLED as it was", UP_TO_198 + """
            next() = 199  next() = FULL  hand(0) = 0  next() = FULL  hand(0) = STATE  undo() = 199  undo() = 198  undo() = 197
            """);
        edge("13: 200 EVENTS that were taken back are no EVENTS", UP_TO_198 + """
            next() = 199  next() = FULL  undo() = 198  event(199) = -1  next() = 199  next() = FULL
            begin() = 1  next() = NEVER  hand(85)  next() = 1
            """);
        edge("13: of several refusals the first: FULL, NEVER", "bench(PLAIN 1, PLAIN 2, PLAIN 3, PLAIN 4) "
                + FOUR_EVENTS.repeat(49) + """
                next() = NEVER  hand(1)  next() = 197  next() = NEVER  hand(1)  next() = 198  next() = NEVER  hand(1)  next() = 199
                of(0, 3) = 0  of(1, 3) = 0  of(2, 3) = 0  of(3, 3) = 0  next() = FULL  hand(0) = 0  next() = FULL
                """);
    }

    private static void undo() {
        edge("14: STATE: there is none", """
            undo() = STATE  hand(0) = 0  undo() = 0  undo() = STATE  bench(PLAIN 4)  undo() = STATE  hand(1)  undo() = 0
            undo() = STATE  of(0, 3) = 0  hand(1) = 1
            """);
        edge("14: hand() is taken back: the EVENT has not been HANDLED", """
            bench(STOPPED 4, LATE 5 3, PLAIN 1)  hand(21)  next() = 1  hand(26) = 3  undo() = 1  of(0, 3) = 3  of(0, 4) = 0
            of(1, 4) = 0  of(1, 5) = 2  of(2, 3) = 0  hand(0) = 0  undo() = 1  hand(4) = 1  of(1, 3) = 0  of(1, 5) = 3
            undo() = 1  of(1, 3) = 5  of(1, 5) = 2
            """);
        edge("14: next() is taken back: the EVENT is as much HANDLED as it was", """
            bench(PLAIN 4, PLAIN 7)  hand(5)  next() = 4  undo() = 0  hand(0) = STATE  of(0, 3) = 4  next() = 4  next() = 7
            undo() = 4  event(2) = -1  event(1) = 4  hand(0) = 0
            """);
        edge("14: that wasn't refused", """
            bench(PLAIN 4)  hand(1) = 1  hand(1) = STATE  hand(256) = NUMBER  next() = 4  next() = NEVER  hand(2) = KIND
            undo() = 0  hand(1) = STATE  undo() = 0  undo() = STATE
            """);
        edge("14: was not taken back", """
            bench(PLAIN 4, PLAIN 7)  hand(5)  next() = 4  next() = 7  undo() = 4  undo() = 0  next() = 4  hand(1)  undo() = 4
            undo() = 0  undo() = 0  undo() = STATE  moment() = 0  event(1) = -1
            """);
    }

    private static void undoHundred() {
        String step = "hand(1) = 1  next() ";
        edge("14: always the latest 100: 99 are all kept", "bench(PLAIN 1) " + step.repeat(49) + "hand(1) "
                + "undo() ".repeat(98) + "undo() = 0  undo() = STATE  moment() = 0  hand(1) = 1  of(0, 3) = 1");
        edge("14: always the latest 100: 100 are all kept", "bench(PLAIN 1) " + step.repeat(50)
                + "undo() = 49  undo() = 49 " + "undo() ".repeat(97) + "undo() = 0  undo() = STATE  hand(1) = 1  undo() = 0");
        edge("14: always the latest 100: of 101 one fell out", "bench(PLAIN 1) " + step.repeat(50) + "hand(1) "
                + "undo() = 50  undo() = 49 " + "undo() ".repeat(97) + """
                undo() = 0  undo() = STATE  hand(1) = STATE  of(0, 3) = 1  next() = 1  undo() = 0  undo() = STATE
                """);
        edge("14: always the latest 100: of 102 two fell out", "bench(PLAIN 1) " + step.repeat(51)
                + "undo() = 50 " + "undo() ".repeat(98) + """
                undo() = 1  undo() = STATE  moment() = 1  event(1) = 1  event(2) = -1  of(0, 3) = 0  hand(1) = 1
                """);
        edge("14: one that fell out behind these does not come back", "bench(PLAIN 1) " + step.repeat(60)
                + "undo() ".repeat(60) + "moment() = 30 " + step.repeat(5) + "moment() = 35 "
                + "undo() ".repeat(49) + "undo() = 10  undo() = STATE  moment() = 10  hand(0) = 0  undo() = 10  undo() = STATE");
        edge("14: the 100 are of the run by hand, which has begun anew", "bench(PLAIN 1) " + step.repeat(51)
                + "begin()  undo() = STATE " + step + "undo() = 0  undo() = 0  undo() = STATE");
        edge("14: refused ones don't fall in among the 100", "bench(PLAIN 1) "
                + "hand(1) = 1  hand(1) = STATE  next()  next() = NEVER ".repeat(50)
                + "undo() ".repeat(99) + "undo() = 0  undo() = STATE");
    }

    private static void begin() {
        edge("15: the run by hand begins anew: 1", """
            begin() = 1  bench(STOPPED 4, LATE 5 3)  begin() = 1  hand(6) = 2  begin() = 1  of(0, 4) = 0  of(1, 3) = 0  of(1, 5) = 0
            undo() = STATE  hand(4) = 1  next() = 8  begin() = 1  moment() = 0  event(0) = 0  event(1) = -1  undo() = STATE
            hand(4) = 1  next() = 8
            """);
        edge("15: the run alone", "bench(PLAIN 4, PLAIN 7)  copy(9)  begin() = 1  glasses() = 2  told(3, 0) = 7  check() = 9");
    }

    private static void runBegunAnew() {
        String played = "bench(PLAIN 4, STOPPED 7)  row(0, 0, 2)  cell(0, 1, 31)  hand(5)  next() = 4  hand(9)  next() = 8 ";
        String anew = "moment() = 0  event(1) = -1  of(0, 3) = 0  of(1, 3) = 0  of(1, 4) = 0  undo() = STATE  hand(0) = 0";
        String goesOn = " moment() = 8  event(2) = 8  of(1, 3) = 3  of(1, 4) = 1  undo() = 4  undo() = 4  of(1, 4) = 0";
        edge("3: behind each call that changes GLASSES: glass", played + "glass(0, 3, 0, 0) = 2 " + anew);
        edge("3: behind each call that changes GLASSES: fill", played + "fill(0, 0, 0) = 1 " + anew);
        edge("3: behind each call that changes GLASSES: fill, with as many GRAINS", played + "fill(1, 3, 0) = 1 " + anew);
        edge("3: behind each call that changes GLASSES: clear", played + """
            clear() = 2  moment() = 0  event(1) = -1  undo() = STATE  hand(0) = 0  glass(0, 3, 0, 0) = 0  of(0, 3) = 0
            hand(0) = 0
            """);
        edge("3: not behind one that is refused: glass", played + "glass(0, 0, 1, 0) = NUMBER  glass(0, 1, 0, 0) = MISSING" + goesOn);
        edge("3: not behind one that is refused: fill", played + "fill(0, 0, 1) = NUMBER  fill(0, 1, 0) = MISSING" + goesOn);
        edge("3: not behind other calls of 1", played + "row(3, 0, 0)  lose(3)  row(2, 1, 1)  cell(2, 0, 9)  lose(0)" + goesOn);
    }

    private static void momentAndEvent() {
        edge("17: from 0 on: MOMENT 0; -1 if there is none such", """
            event(-1) = -1  event(0) = 0  event(1) = -1  bench(PLAIN 4, PLAIN 7)  event(0) = 0  event(1) = -1  hand(5)
            event(1) = -1  next() = 4  event(0) = 0  event(1) = 4  event(2) = -1  next() = 7  event(2) = 7  event(3) = -1
            event(-1) = -1  event(MIN) = -1  event(MAX) = -1  event(199) = -1  event(200) = -1
            """);
        edge("16: the MOMENT of the run by hand", """
            moment() = 0  bench(LATE 30 9)  hand(1)  moment() = 0  next() = 39  moment() = 39  hand(1)  moment() = 39
            next() = 78  moment() = 78  undo()  moment() = 39  begin()  moment() = 0
            """);
    }

    // ---- promises 18 to 24

    private static void reach() {
        edge("2: REACHED: the first one, too", """
            reach() = 1  bench(PLAIN 30)  reach() = 1  clear()  reach() = 1  bench(LATE 1 1)  reach() = 1
            clear()  bench(STOPPED 5)  reach() = 1  clear()  bench(STIFF 1)  reach() = 1
            """);
        edge("2: REACHED at EVENTS, ahead of HANDLINGS", """
            bench(PLAIN 1, STOPPED 1)  reach() = 2  clear()  bench(PLAIN 1, LATE 1 1)  reach() = 4
            clear()  bench(PLAIN 1, LATE 1 2)  reach() = 8  clear()  bench(PLAIN 1, PLAIN 1)  reach() = 1
            clear()  bench(PLAIN 1, PLAIN 2)  reach() = 2
            """);
        edge("18: of the GLASSES as they are now", """
            bench(PLAIN 4, PLAIN 7)  reach() = 10  hand(5)  next()  reach() = 10  row(0, 0, 1)  fill(1, 0, 0)  fill(0, 0, 0)
            reach() = 1  cell(0, 0, 2)  fill(1, 0, 0)  reach() = 2  glass(0, 0, 0, 0)  reach() = 4  clear()  reach() = 1
            """);
    }

    private static void reachSpent() {
        edge("2: the bench is SPENT if there are more than 600: 599", """
            bench(PLAIN 8, STOPPED 9, LATE 3 3)  reach() = 599  config(598, 0, 0) = 7  config(599, 0, 0) = -1  pure(8) = 1
            """);
        edge("2: the bench is SPENT if there are more than 600: 600", """
            bench(PLAIN 1, PLAIN 10, LATE 4 6)  reach() = 600  config(0, 0, 0) = 0  config(599, 1, 0) = 9  config(600, 0, 0) = -1
            pure(1) = 1  spans(60) = 60  fewest(10) = 1  plan(10, 0) = 4  soonest(1) = 1  copy(10) = 1
            """);
        edge("2: the bench is SPENT if there are more than 600: 600 with others", """
            bench(PLAIN 9, STOPPED 8, STOPPED 10)  reach() = 600  clear()  bench(PLAIN 5, PLAIN 9, LATE 2 8)  reach() = 600
            """);
        edge("2: the bench is SPENT if there are more than 600: 601", """
            bench(PLAIN 4, PLAIN 4, LATE 9 5)  reach() = SPENT  config(0, 0, 0) = -1  pure(4) = SPENT  spans(4) = SPENT
            fewest(4) = SPENT  plan(4, 0) = -1  soonest(4) = SPENT  copy(4) = SPENT  reach() = SPENT
            clear()  bench(STOPPED 7, STOPPED 7, STOPPED 8)  reach() = SPENT
            clear()  bench(STOPPED 4, PLAIN 8, LATE 7 3)  reach() = SPENT
            """);
        edge("2: the bench is SPENT, and is no more with other GLASSES", """
            bench(PLAIN 4, PLAIN 4, LATE 9 5)  reach() = SPENT  row(0, 0, 1)  fill(2, 0, 0) = 1  fill(0, 0, 0) = 1  fill(1, 0, 0) = 1
            pure(1) = 1  fewest(60) = 10  clear()  reach() = 1  pure(1) = 0  bench(PLAIN 4, PLAIN 4, LATE 9 5)  pure(4) = SPENT
            """);
        edge("2: a SPENT bench is handled and checked like others", """
            bench(PLAIN 30, PLAIN 29, STOPPED 28, LATE 27 9)  reach() = SPENT  hand(85) = 4  next() = 28  next() = 29  next() = 30
            next() = 36  claim(85) = 1  check() = 28  undo() = 30
            """);
    }

    private static void reachOftenAnew() {
        edge("18: as often as GLASSES are changed", "bench(PLAIN 9, STOPPED 8, STOPPED 10)  row(0, 0, 2)  cell(0, 0, 9) "
                + "fill(0, 0, 0) = 1  reach() = 600  fill(0, 0, 1) = 1  pure(1) = 1 ".repeat(60));
    }

    private static void config() {
        edge("19: -1: there is none such", """
            config(0, 0, 0) = -1  bench(PLAIN 4, PLAIN 7)  config(-1, 0, 0) = -1  config(0, 0, 0) = 0  config(9, 0, 0) = 3
            config(10, 0, 0) = -1  config(599, 0, 0) = -1  config(600, 0, 0) = -1  config(MIN, 0, 0) = -1  config(MAX, 0, 0) = -1
            """);
        edge("19: -1: no such GLASS", """
            bench(PLAIN 4, PLAIN 7)  config(0, -1, 0) = -1  config(6, 1, 0) = 6  config(0, 2, 0) = -1  config(0, 3, 0) = -1
            config(0, 4, 0) = -1  config(0, MIN, 0) = -1  config(0, MAX, 0) = -1
            """);
        edge("19: -1: another what", """
            bench(PLAIN 4, PLAIN 7)  config(9, 0, -1) = -1  config(9, 0, 0) = 3  config(9, 0, 1) = 0  config(9, 0, 2) = 0
            config(9, 0, 3) = -1  config(9, 0, MIN) = -1  config(9, 0, MAX) = -1
            """);
        edge("19: -1: reach() is refused", """
            bench(PLAIN 4, PLAIN 4, LATE 9 5)  config(0, 0, 0) = -1  config(1, 0, 1) = -1  config(600, 2, 2) = -1
            config(-1, 0, 0) = -1
            """);
    }

    private static void configOrder() {
        int[][] late = {{0, 0, 0}, {0, 0, 1}, {0, 1, 0}, {0, 1, 1}, {1, 0, 0}, {1, 0, 1}, {1, 1, 0}, {1, 1, 1}};
        StringBuilder behind = new StringBuilder("bench(PLAIN 1, LATE 1 2)  reach() = 8 ");
        StringBuilder ahead = new StringBuilder("bench(LATE 1 2, PLAIN 1)  reach() = 8 ");
        for (int i = 0; i < late.length; i++) {
            for (int what = 0; what < 3; what++) {
                behind.append("config(" + i + ", 0, " + what + ") = 0  config(" + i + ", 1, " + what + ") = " + late[i][what] + " ");
                ahead.append("config(" + i + ", 1, " + what + ") = 0  config(" + i + ", 0, " + what + ") = " + late[i][what] + " ");
            }
        }
        edge("19: by ABOVE, then whether it is LAID, then how long it WAITS: GLASS 0", ahead.toString());
        edge("19: by ABOVE, then whether it is LAID, then how long it WAITS: GLASS 1", behind.toString());
        int[][] two = {{0, 0}, {0, 1}, {0, 2}, {0, 3}, {0, 4}, {0, 5}, {0, 6}, {1, 0}, {2, 0}, {3, 0}};
        StringBuilder both = new StringBuilder("bench(PLAIN 4, PLAIN 7)  reach() = 10 ");
        for (int i = 0; i < two.length; i++) {
            both.append("config(" + i + ", 0, 0) = " + two[i][0] + "  config(" + i + ", 1, 0) = " + two[i][1] + " ");
        }
        edge("19: by GLASS 0, then by those of GLASS 1", both.toString());
        edge("19: and so on, to GLASS 3", """
            bench(PLAIN 1, PLAIN 1, PLAIN 1, PLAIN 2)  reach() = 2  config(0, 3, 0) = 0  config(1, 3, 0) = 1
            clear()  bench(PLAIN 2, PLAIN 1, PLAIN 1, PLAIN 2)  reach() = 4
            config(0, 0, 0) = 0  config(0, 3, 0) = 0  config(1, 0, 0) = 0  config(1, 3, 0) = 1
            config(2, 0, 0) = 1  config(2, 3, 0) = 0  config(3, 0, 0) = 1  config(3, 3, 0) = 1
            """);
    }

    private static void pureAndSpans() {
        edge("2: a span is PURE if some PLAN has an EVENT at MOMENT s: 1 and 60", """
            bench(PLAIN 1)  pure(1) = 1  pure(60) = 1  spans(1) = 1  spans(2) = 2  spans(59) = 59  spans(60) = 60
            clear()  bench(PLAIN 30)  pure(1) = 0  pure(29) = 0  pure(30) = 1  pure(31) = 0  pure(59) = 0  pure(60) = 1
            spans(29) = 0  spans(30) = 1  spans(59) = 1  spans(60) = 2
            clear()  bench(LATE 21 9)  pure(29) = 0  pure(30) = 1  pure(60) = 1  spans(60) = 2
            """);
        edge("2: PURE with nothing there", "pure(1) = 0  pure(60) = 0  spans(1) = 0  spans(60) = 0");
        edge("2: PURE by an EVENT on the way, which is none of a GLASS that was turned at 0 alone", """
            bench(PLAIN 4, PLAIN 7)  pure(3) = 0  pure(4) = 1  pure(5) = 0  pure(6) = 0  pure(7) = 1  pure(8) = 1  pure(9) = 1
            spans(3) = 0  spans(4) = 1  spans(6) = 1  spans(7) = 2  spans(8) = 3  spans(9) = 4
            """);
        edge("21: how many of the spans 1 to s: s itself, too", """
            bench(PLAIN 5)  spans(4) = 0  spans(5) = 1  spans(6) = 1  spans(9) = 1  spans(10) = 2  spans(60) = 12
            """);
    }

    private static void fewest() {
        edge("22: NEVER: it isn't PURE", """
            fewest(1) = NEVER  fewest(60) = NEVER  bench(PLAIN 30)  fewest(1) = NEVER  fewest(29) = NEVER  fewest(30) = 1
            fewest(31) = NEVER  fewest(59) = NEVER  fewest(60) = 2
            """);
        edge("2: FEWEST: the least sum of COUNTS, not the fewest EVENTS", """
            bench(PLAIN 1)  fewest(1) = 1  fewest(2) = 2  fewest(60) = 60
            clear()  bench(PLAIN 1, TWIN 3 0)  fewest(1) = 1  fewest(2) = 2  fewest(3) = 2  fewest(4) = 3  fewest(6) = 4
            clear()  bench(PLAIN 4, PLAIN 7)  fewest(4) = 1  fewest(7) = 1  fewest(8) = 2  fewest(9) = 5  fewest(11) = 2
            """);
    }

    private static void plan() {
        edge("23: -1: there is none such", """
            bench(PLAIN 1)  plan(1, -1) = -1  plan(1, 0) = 1  plan(1, 1) = -1
            plan(60, -1) = -1  plan(60, 0) = 1  plan(60, 59) = 1  plan(60, 60) = -1  plan(60, 61) = -1
            plan(60, MIN) = -1  plan(60, MAX) = -1  plan(59, 58) = 1  plan(59, 59) = -1
            """);
        edge("23: -1: fewest() is refused", """
            plan(1, 0) = -1  bench(PLAIN 4, PLAIN 7)  plan(0, 0) = -1  plan(61, 0) = -1  plan(-1, 0) = -1  plan(MIN, 0) = -1
            plan(MAX, 0) = -1  plan(1, 0) = -1  plan(6, 0) = -1  plan(4, 0) = 1  plan(7, 0) = 4  plan(1, 0) = -1
            clear()  bench(PLAIN 4, PLAIN 4, LATE 9 5)  plan(4, 0) = -1  plan(0, 0) = -1
            """);
        edge("23: HANDLING i, ahead of EVENT i + 1 of it", """
            bench(PLAIN 4, PLAIN 7)  plan(9, 0) = 5  plan(9, 1) = 1  plan(9, 2) = 4  plan(9, 3) = 4  plan(9, 4) = -1
            hand(5)  next() = 4  hand(1)  next() = 7  hand(4)  next() = 8  hand(4)  next() = 9
            """);
        edge("23: of the GLASSES as they are now", """
            bench(PLAIN 4, PLAIN 7)  plan(8, 0) = 1  plan(8, 1) = 1  row(0, 0, 1)  cell(0, 0, 8)  fill(1, 0, 0) = 1
            plan(8, 0) = 4  plan(8, 1) = -1  fewest(8) = 1  cell(0, 0, 2)  glass(0, 0, 0, 0) = 2  plan(8, 0) = 4  plan(2, 0) = 16
            clear()  plan(8, 0) = -1  plan(2, 0) = -1
            """);
        edge("23: one span behind another", """
            bench(PLAIN 4, PLAIN 7)  plan(9, 0) = 5  plan(4, 0) = 1  plan(4, 1) = -1  plan(9, 3) = 4  plan(7, 0) = 4
            plan(8, 1) = 1  plan(8, 2) = -1  plan(9, 1) = 1
            """);
    }

    private static void planOfSeveral() {
        edge("2: THE PLAN: the one with the lesser HANDLING where they are first unlike", """
            bench(PLAIN 2, PLAIN 3)  fewest(5) = 2  plan(5, 0) = 1  plan(5, 1) = 4  plan(5, 2) = -1
            fewest(7) = 3  plan(7, 0) = 1  plan(7, 1) = 1  plan(7, 2) = 4  plan(7, 3) = -1
            clear()  bench(PLAIN 3, PLAIN 2)  fewest(5) = 2  plan(5, 0) = 1  plan(5, 1) = 4
            fewest(7) = 3  plan(7, 0) = 1  plan(7, 1) = 4  plan(7, 2) = 4
            """);
        edge("2: THE PLAN: GLASS 0 is the lowest digit", """
            bench(PLAIN 5, PLAIN 5, PLAIN 5, PLAIN 5)  plan(5, 0) = 1  plan(10, 1) = 1  clear()
            bench(STIFF 6, PLAIN 5, PLAIN 5)  plan(5, 0) = 4  plan(10, 1) = 4  plan(6, 0) = 1
            """);
        edge("2: THE PLAN: 0 is a HANDLING, too", """
            bench(PLAIN 1, TWIN 3 0)  plan(3, 0) = 5  plan(3, 1) = 0  plan(3, 2) = -1
            plan(4, 0) = 1  plan(4, 1) = 5  plan(4, 2) = 0  plan(4, 3) = -1
            plan(6, 0) = 5  plan(6, 1) = 0  plan(6, 2) = 5  plan(6, 3) = 0  plan(6, 4) = -1
            """);
        edge("2: THE PLAN: of those that have the FEWEST, though another has a lesser HANDLING", """
            bench(PLAIN 1, PLAIN 5)  fewest(5) = 1  plan(5, 0) = 4  plan(5, 1) = -1  fewest(6) = 2  plan(6, 0) = 1  plan(6, 1) = 4
            """);
    }

    private static void soonest() {
        edge("2: SOONEST: the least MOMENT m such that some PLAN has EVENTS at m and at m - s", """
            bench(PLAIN 4, PLAIN 7)  soonest(1) = 8  soonest(2) = 9  soonest(3) = 7  soonest(4) = 4  soonest(7) = 7
            soonest(60) = 60
            """);
        edge("24: NEVER: there is none", """
            soonest(1) = NEVER  soonest(60) = NEVER  bench(PLAIN 30)  soonest(1) = NEVER  soonest(29) = NEVER  soonest(30) = 30
            soonest(31) = NEVER  soonest(60) = 60  clear()  bench(PLAIN 4, PLAIN 6)  soonest(1) = NEVER  soonest(2) = 6
            """);
        edge("24: m may be above 60, and so may m - s", """
            bench(STIFF 29, STIFF 30)  soonest(1) = 30  soonest(2) = 60  soonest(3) = 90  soonest(15) = 435  pure(15) = 0
            """);
        edge("2: SOONEST: the least MOMENT, by whichever PLAN", """
            bench(PLAIN 2, PLAIN 11, TWIN 8 1)  soonest(1) = 11  clear()  bench(STOPPED 11, PLAIN 12, TWIN 2 1)  soonest(1) = 11
            clear()  bench(STIFF 2, PLAIN 13, TWIN 10 1)  soonest(1) = 13
            clear()  bench(STIFF 4, PLAIN 12, STIFF 9)  soonest(2) = 10
            """);
        edge("24: EVENTS of one PLAN, that need not follow one another", """
            bench(PLAIN 2, PLAIN 3, PLAIN 6)  soonest(1) = 3  soonest(4) = 4  soonest(5) = 5
            clear()  bench(STIFF 3, STIFF 7)  soonest(4) = 7  soonest(11) = 14  pure(11) = 0
            """);
    }

    private static void spans1To60() {
        for (String call : new String[] {"pure", "spans", "fewest", "soonest", "copy"}) {
            StringBuilder calls = new StringBuilder();
            String[] outside = {"0", "-1", "61", "MIN", "MAX", "257"};
            for (String bench : new String[] {"", "bench(PLAIN 1) "}) {
                calls.append(bench);
                for (String s : outside) {
                    calls.append(call + "(" + s + ") = NUMBER ");
                }
            }
            calls.append(call + "(1) = 1 " + call + "(60) = " + (call.equals("pure") ? 1 : 60));
            edge("20 to 26: NUMBER: s isn't 1 to 60: " + call, calls.toString());
        }
    }

    private static void spentAtOnce() {
        edge("20 to 26: of several refusals the first: NUMBER, SPENT", """
            bench(PLAIN 4, PLAIN 4, LATE 9 5)
            pure(0) = NUMBER  pure(61) = NUMBER  pure(1) = SPENT  pure(60) = SPENT
            spans(0) = NUMBER  spans(61) = NUMBER  spans(1) = SPENT  spans(60) = SPENT
            fewest(0) = NUMBER  fewest(61) = NUMBER  fewest(60) = SPENT
            soonest(0) = NUMBER  soonest(61) = NUMBER  soonest(60) = SPENT
            copy(0) = NUMBER  copy(61) = NUMBER  copy(60) = SPENT
            """);
        edge("22 to 26: of several refusals the first: SPENT, NEVER", """
            bench(STOPPED 30, STOPPED 29, STOPPED 28, STOPPED 27)  reach() = SPENT  fewest(1) = SPENT  soonest(1) = SPENT
            copy(1) = SPENT  plan(1, 0) = -1
            """);
    }

    // ---- promises 25 to 29

    private static void claim() {
        StringBuilder sixty = new StringBuilder();
        for (int k = 1; k <= 60; k++) {
            sixty.append("claim(" + (k % 2 == 0 ? 255 : 0) + ") = " + k + " ");
        }
        edge("25: FULL: there are 60", sixty + """
            claim(0) = FULL  claim(255) = FULL  unclaim() = 60  claim(0) = 1
            """);
        edge("25: of several refusals the first: NUMBER, FULL", sixty + """
            claim(-1) = NUMBER  claim(256) = NUMBER  claim(0) = FULL  alter(59, 1) = 1  alter(60, 1) = NUMBER  unclaim() = 60
            """);
        edge("25: to the end of what is CLAIMED", """
            bench(PLAIN 4, PLAIN 7)  claim(1) = 1  check() = 4  claim(4) = 2  check() = 11  claim(0) = 3  check() = -4
            """);
    }

    private static void copy() {
        edge("26: what is CLAIMED becomes THE PLAN: how many HANDLINGS", """
            bench(PLAIN 1)  copy(1) = 1  check() = 1  copy(60) = 60  check() = 60  claim(1) = FULL  copy(59) = 59  claim(1) = 60
            check() = 60  copy(2) = 2  check() = 2  unclaim() = 2
            """);
        edge("26: NEVER, and what is CLAIMED stays", """
            copy(1) = NEVER  bench(PLAIN 4, PLAIN 7)  claim(1) = 1  claim(4) = 2  copy(1) = NEVER  check() = 11  copy(0) = NUMBER
            copy(61) = NUMBER  check() = 11  unclaim() = 2
            """);
        edge("26: SPENT, and what is CLAIMED stays", """
            bench(PLAIN 4, PLAIN 4, LATE 9 5)  claim(1)  copy(4) = SPENT  check() = 4  unclaim() = 1
            """);
        edge("26: over as many as may be", "bench(PLAIN 4, PLAIN 7) " + "claim(255) ".repeat(60)
                + "claim(1) = FULL  copy(9) = 4  check() = 9  alter(3, 1) = 1  alter(4, 1) = NUMBER  unclaim() = 4");
        edge("26: THE PLAN of the GLASSES as they are now", """
            bench(PLAIN 4, PLAIN 7)  copy(8) = 2  row(0, 0, 1)  cell(0, 0, 8)  fill(1, 0, 0)  copy(8) = 1  check() = 8
            clear()  copy(8) = NEVER  unclaim() = 1
            """);
        edge("26: a copy, that stays as it is with other GLASSES", """
            bench(PLAIN 4, PLAIN 7)  copy(9) = 4  plan(4, 0) = 1  check() = 9  row(0, 0, 1)  cell(0, 0, 8)  fill(1, 0, 0)
            check() = 24  unclaim() = 4
            """);
    }

    private static void alter() {
        edge("27: NUMBER: there is none such", """
            alter(0, 0) = NUMBER  bench(PLAIN 4, PLAIN 7)  claim(1)  claim(1)  alter(-1, 4) = NUMBER  alter(2, 4) = NUMBER
            alter(59, 4) = NUMBER  alter(60, 4) = NUMBER  alter(MIN, 4) = NUMBER  alter(MAX, 4) = NUMBER  check() = 8
            alter(0, 4) = 1  check() = 11  alter(1, 4) = 1  check() = 14  unclaim() = 2  alter(0, 1) = NUMBER  check() = 0
            """);
        edge("27: NUMBER: it isn't 0 to 255", """
            bench(PLAIN 4)  claim(1)  alter(0, -1) = NUMBER  alter(0, 256) = NUMBER  alter(0, MIN) = NUMBER
            alter(0, MAX) = NUMBER  check() = 4  alter(0, 0) = 1  check() = -2  alter(0, 255) = 1  check() = -2  alter(0, 1) = 1
            check() = 4
            """);
        edge("27: of several refusals the first", """
            alter(0, 256) = NUMBER  claim(1)  alter(1, 256) = NUMBER  alter(-1, -1) = NUMBER  unclaim() = 1
            """);
        edge("27: the first and the last of 60", "bench(PLAIN 1, PLAIN 2) " + "claim(1) ".repeat(60)
                + "check() = 60  alter(59, 4) = 1  check() = 61  alter(0, 4) = 1  check() = 62 "
                + "alter(60, 4) = NUMBER  alter(58, 0) = 1  check() = -60");
    }

    private static void unclaim() {
        edge("28: nothing is CLAIMED: how many there were", "unclaim() = 0  claim(0)  unclaim() = 1  unclaim() = 0  check() = 0 "
                + "claim(0) ".repeat(59) + "unclaim() = 59 " + "claim(0) ".repeat(60) + "unclaim() = 60  claim(0) = 1  unclaim() = 1");
    }

    private static void check() {
        edge("29: 0 if nothing is CLAIMED", """
            check() = 0  bench(PLAIN 4)  check() = 0  hand(1)  next()  check() = 0  claim(1)  unclaim()  check() = 0
            """);
        edge("29: the MOMENT of the EVENT behind the last one", "bench(LATE 30 9) " + "claim(1) ".repeat(59)
                + "check() = 2301  claim(1) = 60  check() = 2340");
        edge("29: from the first CONFIG on, whatever is played by hand", """
            bench(STIFF 4, PLAIN 7)  claim(5)  check() = 4  hand(5)  check() = 4  next() = 4  check() = 4  hand(1)  next() = 7
            check() = 4  moment() = 7  of(0, 3) = 1  hand(0) = 0  undo() = 7
            """);
        edge("29: in the first CONFIG all stand, WAIT 0 and have nothing ABOVE", """
            bench(STOPPED 6, LATE 6 5, PLAIN 6, PLAIN 3)  claim(64)  check() = 3  alter(0, 80)  check() = 3  alter(0, 16)
            check() = 6  alter(0, 4)  check() = 11  alter(0, 1)  check() = 6  hand(70) = 3  next() = 3  check() = 6
            """);
        edge("29: of the GLASSES as they are now", """
            claim(1)  check() = -2  row(0, 0, 1)  cell(0, 0, 9)  glass(0, 0, 0, 0)  check() = 9  cell(0, 0, 5)  fill(0, 0, 0)
            check() = 5  clear()  check() = -2  unclaim() = 1
            """);
    }

    private static void checkFails() {
        edge("29: -2 less the number of the first that isn't ALLOWED", "bench(PLAIN 1) " + "claim(1) ".repeat(60) + """
            check() = 60  alter(59, 2) = 1  check() = -61  alter(58, 2) = 1  check() = -60  alter(1, 4) = 1  check() = -3
            alter(0, 3) = 1  check() = -2
            """);
        edge("29: or behind which there is no next EVENT", "bench(PLAIN 1) " + "claim(1) ".repeat(60) + """
            alter(59, 0) = 1  check() = -61  alter(58, 0) = 1  check() = -60  alter(1, 0) = 1  check() = -3
            alter(0, 0) = 1  check() = -2
            """);
        edge("29: the first of both sorts", """
            bench(PLAIN 4)  claim(1)  claim(0)  claim(2)  check() = -3  alter(1, 2) = 1  alter(2, 0) = 1  check() = -3
            alter(0, 0) = 1  check() = -2
            """);
        edge("29: each sort of one that isn't ALLOWED", """
            bench(STIFF 4, TWIN 2 0, STOPPED 3)  claim(5)  check() = 2  claim(1)  check() = -3  alter(1, 5)  check() = -3
            alter(1, 4)  check() = -3  alter(1, 8)  check() = -3  alter(1, 48)  check() = -3  alter(1, 64)  check() = -3
            alter(1, 16)  check() = 4  alter(1, 32)  check() = 4  claim(16)  check() = -4  alter(2, 32)  check() = -4
            alter(2, 48)  check() = -4  alter(2, 49)  check() = 8  alter(2, 1)  check() = 8
            """);
        edge("29: nothing is there", "claim(0) = 1  check() = -2  claim(0) = 2  check() = -2  alter(0, 1) = 1  check() = -2");
    }

    // ---- a call that is refused changes nothing

    private static final String NOTHING = "";
    /** At an event that has not been handled; row 2 is missing, row 1 is empty, row 3 is full. */
    private static final String PLAYED = """
        row(0, 0, 3) cell(0, 0, 4) cell(0, 1, 7) cell(0, 2, 31) row(1, 2, 0) row(3, 1, 20) cell(3, 19, 30)
        glass(0, 0, 0, 0) = 0  glass(0, 0, 1, 0) = 1  copy(9) = 4  hand(5) = 2  next() = 4
        """;
    private static final String HANDLED = PLAYED + "hand(1) = 1 ";
    /** Nothing goes on: one is laid with some above, the other has nothing above. */
    private static final String STILL = """
        row(0, 2, 2) cell(0, 0, 12) cell(0, 1, 1) glass(2, 0, 0, 0) = 0  glass(4, 0, 1, 9) = 1  claim(1) claim(4)
        hand(5) = 2  next() = 10  hand(2) = 1  of(0, 3) = 2
        """;
    private static final String AS_MANY_AS_MAY_BE = "bench(STOPPED 30, LATE 29 9, STIFF 28, TWIN 27 2) "
            + "claim(16) ".repeat(60) + "reach() = SPENT  check() = 1680  hand(86) = 4  next() = 27  hand(4)  next() = 28 ";
    private static final String TWO_HUNDRED_EVENTS = UP_TO_198 + "next() = 199 ";
    private static final String ALL_TAKEN_BACK = "bench(PLAIN 1) claim(1) " + "hand(1) next() ".repeat(52) + "undo() ".repeat(100);

    private static void refusedChangesNothing() {
        changesNothing(NOTHING, """
            row(-1, 0, 1) = NUMBER  row(4, 0, 1) = NUMBER  row(0, -1, 1) = NUMBER  row(0, 3, 1) = NUMBER
            row(0, 0, -1) = SIZE  row(0, 0, 21) = NUMBER  cell(-1, 0, 5) = NUMBER  cell(0, 0, 5) = MISSING  lose(0) = MISSING
            lose(4) = NUMBER  glass(0, 0, 0, 0) = MISSING  glass(5, 0, 0, 0) = NUMBER  fill(0, 0, 0) = NUMBER  of(0, 3) = NUMBER
            can(256) = NUMBER  can(0) = 1  hand(256) = NUMBER  hand(1) = KIND  next() = NEVER  undo() = STATE  event(1) = -1
            reach() = 1  config(0, 0, 0) = -1  pure(0) = NUMBER  pure(1) = 0  spans(61) = NUMBER  fewest(1) = NEVER
            plan(1, 0) = -1  soonest(1) = NEVER  claim(256) = NUMBER  copy(0) = NUMBER  copy(1) = NEVER  alter(0, 0) = NUMBER
            unclaim() = 0  check() = 0  clear() = 0  begin() = 1
            """);
        changesNothing(PLAYED, """
            row(-1, 0, 1) = NUMBER  row(4, 0, 1) = NUMBER  row(0, -1, 1) = NUMBER  row(0, 3, 1) = NUMBER  row(0, 0, -1) = SIZE
            row(0, 2, MIN) = SIZE  row(3, 0, 21) = NUMBER  row(2, 0, -1) = SIZE  row(2, 0, 21) = NUMBER
            cell(-1, 0, 9) = NUMBER  cell(4, 0, 9) = NUMBER  cell(2, 0, 9) = MISSING  cell(0, -1, 9) = NUMBER
            cell(0, 3, 9) = NUMBER  cell(1, 0, 9) = NUMBER  cell(3, 20, 9) = NUMBER
            told(-1, 0) = MIN  told(2, 0) = MIN  told(0, 3) = MIN  told(0, 2) = 31
            lose(-1) = NUMBER  lose(4) = NUMBER  lose(2) = MISSING
            glass(0, -1, 0, 0) = NUMBER  glass(0, 4, 0, 0) = NUMBER  glass(-1, 0, 0, 0) = NUMBER  glass(5, 0, 0, 0) = NUMBER
            glass(0, 2, 0, 0) = MISSING  glass(0, 0, 3, 0) = NUMBER  glass(0, 0, -1, 0) = NUMBER  glass(0, 1, 0, 0) = NUMBER
            glass(0, 0, 2, 0) = NUMBER  glass(1, 0, 0, 2) = NUMBER  glass(1, 0, 0, -1) = NUMBER  glass(4, 0, 0, 0) = NUMBER
            glass(4, 0, 0, 10) = NUMBER
            fill(-1, 0, 1) = NUMBER  fill(2, 0, 1) = NUMBER  fill(0, -1, 1) = NUMBER  fill(0, 4, 1) = NUMBER
            fill(0, 2, 0) = MISSING  fill(0, 0, -1) = NUMBER  fill(0, 0, 3) = NUMBER  fill(0, 0, 2) = NUMBER  fill(0, 1, 0) = NUMBER
            of(-1, 3) = NUMBER  of(2, 3) = NUMBER  of(0, 6) = NUMBER  of(1, 3) = 3  glasses() = 2
            """);
        changesNothing(PLAYED, """
            can(-1) = NUMBER  can(256) = NUMBER  can(5) = 1  can(2) = 0
            hand(-1) = NUMBER  hand(256) = NUMBER  hand(2) = KIND  hand(3) = KIND  hand(16) = KIND  hand(17) = KIND
            moment() = 4  event(1) = 4  event(2) = -1
            reach() = 10  config(9, 0, 0) = 3  config(10, 0, 0) = -1  pure(0) = NUMBER  pure(61) = NUMBER  pure(9) = 1
            spans(0) = NUMBER  spans(61) = NUMBER  spans(20) = 15  fewest(0) = NUMBER  fewest(61) = NUMBER  fewest(1) = NEVER
            fewest(9) = 5  plan(9, 0) = 5  plan(4, 0) = 1  plan(9, 4) = -1  plan(1, 0) = -1  plan(0, 0) = -1
            soonest(0) = NUMBER  soonest(61) = NUMBER  soonest(1) = 8
            claim(-1) = NUMBER  claim(256) = NUMBER  copy(0) = NUMBER  copy(61) = NUMBER  copy(1) = NEVER
            alter(-1, 0) = NUMBER  alter(4, 0) = NUMBER  alter(0, -1) = NUMBER  alter(0, 256) = NUMBER  check() = 9
            """);
        changesNothing(HANDLED, """
            hand(0) = STATE  hand(1) = STATE  hand(2) = STATE  hand(5) = STATE  hand(256) = NUMBER  can(0) = 1  can(5) = 1
            can(16) = 0  of(0, 3) = 4  moment() = 4  check() = 9  reach() = 10  plan(8, 1) = 1  soonest(3) = 7
            """);
        changesNothing(STILL, "next() = NEVER  hand(0) = STATE  hand(3) = STATE  can(3) = 1  of(0, 4) = 1  check() = 22");
        changesNothing(AS_MANY_AS_MAY_BE, """
            glass(0, 3, 0, 0) = FULL  glass(1, 3, 0, 3) = FULL  glass(4, 3, 0, 9) = FULL  glass(4, 3, 0, 10) = NUMBER
            glass(0, 0, 0, 0) = MISSING  claim(0) = FULL  claim(256) = NUMBER  copy(28) = SPENT  copy(0) = NUMBER
            alter(60, 0) = NUMBER  reach() = SPENT  config(0, 0, 0) = -1  pure(28) = SPENT  spans(28) = SPENT
            fewest(28) = SPENT  plan(28, 0) = -1  soonest(28) = SPENT  hand(1) = KIND  hand(12) = KIND  can(3) = 1
            """);
        changesNothing(TWO_HUNDRED_EVENTS, "next() = FULL  hand(2) = KIND  hand(256) = NUMBER  event(200) = -1  moment() = 199");
        changesNothing(TWO_HUNDRED_EVENTS + "hand(64) = 1 ", "next() = FULL  hand(0) = STATE  hand(64) = STATE");
        changesNothing(ALL_TAKEN_BACK, "undo() = STATE  moment() = 2  event(2) = 2  event(3) = -1  hand(2) = KIND  next() = NEVER");
    }

    /** Each of the calls, by itself, in the state; a second object without the call must answer alike ever after. */
    private static void changesNothing(String state, String calls) {
        leavesAlone(state, calls, everything());
    }

    private static void leavesAlone(String state, String calls, String probe) {
        for (Call call : parsed(calls)) {
            String sentence = "a call that is refused changes nothing: " + call;
            Player with = new Player(sentence);
            with.play(parsed(state));
            with.play(List.of(call));
            Player without = new Player(sentence);
            without.play(parsed(state));
            for (Call asked : parsed(probe)) {
                int due = without.ask(asked);
                int got = with.ask(asked);
                if (got != due) {
                    report(sentence + ", then " + asked, got, due);
                }
            }
        }
    }

    private static String everything() {
        return rowsTold() + glassesTold() + runTold() + plansTold() + claimedTold()
                + "cell(3, 0, 2) glass(2, 3, 0, 0) glasses() clear() glass(1, 3, 0, 0) glass(0, 3, 0, 0) reach()";
    }

    /** What the rows hold, and last how they cast. */
    private static String rowsTold() {
        StringBuilder b = new StringBuilder();
        for (int r = 0; r < 4; r++) {
            b.append("told(%d, 0) told(%d, 1) told(%d, 2) told(%d, 3) told(%d, 19) ".replace("%d", "" + r));
        }
        for (int r = 0; r < 4; r++) {
            b.append("cell(%d, 0, 70000) told(%d, 0) ".replace("%d", "" + r));
        }
        return b.toString();
    }

    private static String glassesTold() {
        StringBuilder b = new StringBuilder("glasses() ");
        for (int g = 0; g < 4; g++) {
            b.append("of(%d, 0) of(%d, 1) of(%d, 2) ".replace("%d", "" + g));
        }
        return b.toString();
    }

    /** The run by hand as it is, then as it goes on, then as it is taken back as far as can be. */
    private static String runTold() {
        StringBuilder b = new StringBuilder("moment() event(0) event(1) event(2) event(199) ");
        for (int g = 0; g < 4; g++) {
            b.append("of(%d, 3) of(%d, 4) of(%d, 5) ".replace("%d", "" + g));
        }
        b.append("can(0) can(1) can(2) can(3) can(4) can(16) can(48) can(80) hand(0) next() hand(1) next() ");
        b.append("undo() ".repeat(105));
        b.append("of(0, 3) of(0, 4) of(1, 5) event(1) hand(0) ");
        return b.toString();
    }

    private static String plansTold() {
        return "reach() config(0, 0, 0) config(1, 1, 0) config(9, 0, 0) pure(4) spans(60) fewest(9) plan(9, 0) plan(9, 3) soonest(1) ";
    }

    private static String claimedTold() {
        return "check() alter(0, 1) alter(3, 4) check() claim(1) unclaim() ";
    }

    /** What the document says of one thing leaves the other things as they are. */
    private static void changesOnlyItsOwn() {
        String allButRows = glassesTold() + runTold() + plansTold() + claimedTold();
        String allButRun = rowsTold() + glassesTold() + plansTold() + claimedTold();
        String allButClaimed = rowsTold() + glassesTold() + runTold() + plansTold();
        for (String state : new String[] {PLAYED, HANDLED}) {
            leavesAlone(state, "row(0, 2, 5) = 1  row(2, 1, 20) = 1  cell(0, 0, 9) = 1  cell(3, 19, 2) = 1", allButRows);
            leavesAlone(state, "lose(0) = 1  lose(3) = 1", allButRows);
            leavesAlone(state, "next()  undo()  begin() = 1", allButRun);
            leavesAlone(state, "claim(0) = 5  copy(4) = 1  alter(0, 255) = 1  unclaim() = 4", allButClaimed);
            leavesAlone(state, "glass(3, 0, 1, 0) = 2  fill(0, 0, 1) = 1  clear() = 2", rowsTold() + "unclaim()");
        }
        leavesAlone(PLAYED, "hand(0) = 0  hand(5) = 2", allButRun);
        leavesAlone(AS_MANY_AS_MAY_BE, "hand(4) = 1  hand(3) = 1  hand(64) = KIND  next()  undo()", allButRun);
        leavesAlone(AS_MANY_AS_MAY_BE, "alter(59, 0) = 1  unclaim() = 60", allButClaimed);
        leavesAlone(TWO_HUNDRED_EVENTS, "undo() = 198  hand(64) = 1  begin() = 1", allButRun);
    }

    private static void objectsAreApart() {
        Player one = new Player("two objects share nothing");
        Player other = new Player("two objects share nothing");
        one.play(parsed(PLAYED));
        other.play(parsed("told(0, 0) = MIN  glasses() = 0  moment() = 0  check() = 0  undo() = STATE  reach() = 1  pure(4) = 0"));
        other.play(parsed("bench(PLAIN 5)  hand(1)  next() = 5  claim(1) = 1  reach() = 1  fewest(10) = 2  plan(5, 0) = 1"));
        one.play(parsed("told(0, 0) = 4  glasses() = 2  moment() = 4  check() = 9"));
        one.play(parsed("reach() = 10  fewest(9) = 5  undo() = 0  plan(7, 0) = 4"));
    }

    private static void fiveHundredAndTwelveCalls() {
        String eight = "fill(1, 0, 1) = 1  soonest(3) = NEVER  copy(8) = 1  fill(1, 0, 0) = 1 "
                + "copy(9) = 4  check() = 9  hand(5) = 2  next() = 4 ";
        edge("an object is used for at most 512 calls: to the last one",
                "bench(PLAIN 4, PLAIN 7)  row(0, 0, 2)  cell(0, 0, 7)  cell(0, 1, 8) " + eight.repeat(63));
    }

    /** LANGUAGE.md, rule 7: for any arguments in any state. */
    private static void noCallThrows() {
        int[] numbers = {MIN, MIN + 1, -257, -61, -1, 0, 1, 2, 3, 4, 5, 9, 10, 19, 20, 21, 30, 31, 59, 60, 61, 199, 200,
            255, 256, 599, 600, 601, 65536, MAX - 1, MAX};
        String[] states = {NOTHING, PLAYED, STILL, AS_MANY_AS_MAY_BE, TWO_HUNDRED_EVENTS, ALL_TAKEN_BACK};
        for (String state : states) {
            for (Method method : CALLS.values()) {
                throwNothing(parsed(state), method, numbers);
            }
        }
    }

    /** Each number in each place, and each in all places at once; the others are such as may be. */
    private static void throwNothing(List<Call> state, Method method, int[] numbers) {
        int places = method.getParameterCount();
        Player player = new Player("no call may ever throw");
        player.play(state);
        for (int place = 0; place <= places; place++) {
            for (int number : numbers) {
                int[] args = new int[places];
                for (int k = 0; k < places; k++) {
                    args[k] = place == k || place == places ? number : k == 0 ? 0 : 1;
                }
                player.ask(new Call(method.getName(), args, null));
            }
        }
        player.play(parsed("glasses()  moment()  unclaim()"));
    }

    // ---- how an edge is played

    private static final int MIN = Integer.MIN_VALUE;
    private static final int MAX = Integer.MAX_VALUE;
    private static final int MOST_CALLS = 512;

    private static void edge(String sentence, String calls) {
        new Player(sentence).play(parsed(calls));
    }

    private static void report(String what, int got, Object due) {
        wrong++;
        System.out.println(what + ": answered " + got + ", due is " + due);
    }

    /** A call with what is due, which is null where the call must only not be refused. */
    private record Call(String name, int[] args, Integer due) {
        @Override
        public String toString() {
            StringBuilder b = new StringBuilder(name).append('(');
            for (int k = 0; k < args.length; k++) {
                b.append(k == 0 ? "" : ", ").append(args[k]);
            }
            return b.append(')').toString();
        }
    }

    /** One object, with a count of its calls: nothing is promised behind the 512th. */
    private static final class Player {
        private final SandBench bench = new SandBench();
        private final String sentence;
        private int count;

        Player(String sentence) {
            this.sentence = sentence;
        }

        void play(List<Call> calls) {
            for (Call call : calls) {
                int got = ask(call);
                if (call.due == null ? got < 0 : got != call.due) {
                    report(sentence + ", call " + count + ", " + call, got, call.due == null ? "no refusal" : call.due);
                }
            }
        }

        int ask(Call call) {
            count++;
            if (count > MOST_CALLS) {
                throw new IllegalStateException(sentence + ": more than " + MOST_CALLS + " calls");
            }
            Object[] args = new Object[call.args.length];
            for (int k = 0; k < args.length; k++) {
                args[k] = call.args[k];
            }
            try {
                return (Integer) CALLS.get(call.name).invoke(bench, args);
            } catch (IllegalAccessException | InvocationTargetException e) {
                throw new IllegalStateException(sentence + ", " + call, e);
            }
        }
    }

    private static List<Call> parsed(String text) {
        List<Call> calls = new ArrayList<>();
        Matcher m = CALL.matcher(text);
        int at = 0;
        while (at < text.length() && m.find(at) && m.start() == at) {
            at = m.end();
            if (m.group(1).equals("bench")) {
                addGlasses(calls, m.group(2));
            } else {
                Integer due = m.group(3) == null ? null : Integer.valueOf(number(m.group(3)));
                calls.add(new Call(m.group(1), numbers(m.group(2)), due));
            }
        }
        if (!text.substring(at).isBlank()) {
            throw new IllegalStateException("no call: " + text.substring(at));
        }
        return calls;
    }

    /** Glasses told as KIND, grains and, if it has one, its twin or delay; row 3 is used for them. */
    private static void addGlasses(List<Call> calls, String text) {
        calls.add(new Call("row", new int[] {3, 2, 1}, 1));
        for (String glass : text.split(",")) {
            String[] told = glass.trim().split(" ");
            calls.add(new Call("cell", new int[] {3, 0, number(told[1])}, 1));
            calls.add(new Call("glass", new int[] {number(told[0]), 3, 0, told.length > 2 ? number(told[2]) : 0}, null));
        }
    }

    private static int[] numbers(String text) {
        if (text.isBlank()) {
            return new int[0];
        }
        String[] told = text.split(",");
        int[] numbers = new int[told.length];
        for (int k = 0; k < told.length; k++) {
            numbers[k] = number(told[k].trim());
        }
        return numbers;
    }

    private static int number(String text) {
        Integer named = NAMES.get(text);
        return named != null ? named : Integer.parseInt(text);
    }

    private static Map<String, Integer> names() {
        Map<String, Integer> names = new HashMap<>();
        names.put("MIN", Integer.MIN_VALUE);
        names.put("MAX", Integer.MAX_VALUE);
        String[] refusals = {"NUMBER", "FULL", "MISSING", "SIZE", "STATE", "KIND", "NEVER", "SPENT"};
        for (int k = 0; k < refusals.length; k++) {
            names.put(refusals[k], -1 - k);
        }
        String[] kinds = {"PLAIN", "TWIN", "STOPPED", "STIFF", "LATE"};
        for (int k = 0; k < kinds.length; k++) {
            names.put(kinds[k], k);
        }
        return names;
    }

    private static Map<String, Method> calls() {
        Map<String, Method> calls = new HashMap<>();
        for (Method m : SandBench.class.getDeclaredMethods()) {
            if (java.lang.reflect.Modifier.isPublic(m.getModifiers())) {
                calls.put(m.getName(), m);
            }
        }
        return calls;
    }
}
