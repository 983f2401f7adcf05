import java.lang.reflect.InvocationTargetException;
import java.lang.reflect.Method;
import java.lang.reflect.Modifier;
import java.util.ArrayList;
import java.util.Arrays;
import java.util.Comparator;
import java.util.List;

/**
 * One method for each sentence of ../shared/DOC.md that names a boundary case: its name tells the promise, the
 * words above it are the document's. It holds the last input that is still taken and the first that is refused.
 * A refused call is made on one of two objects that were made alike; whatever both are asked and told to do
 * later on, they must answer alike.
 */
public final class BoundariesTest {
    private static final int BAD = -1, NONE = -1;
    private static final int HEAD = -11, UNDER = -12, WAY = -13, TOKEN = -14, FULL = -15, NO_FRAME = -16;
    private static final int MIN = Integer.MIN_VALUE, MAX = Integer.MAX_VALUE;

    /** What is promised for one object. */
    private static final int MOST_CALLS = 512;

    private static int wrong = 0;
    private static String sentence = "";

    /** The latest call, for the message. */
    private static String latest = "";

    private static void fault(String message) {
        wrong++;
        System.out.println(sentence + ": " + message);
    }

    private static void due(int wanted, int got) {
        if (got != wanted) fault(latest + " answered " + got + ", due is " + wanted);
    }

    /** An object whose calls are written down. */
    private static final class Kept {
        final GlulxFrames x;
        final List<String> calls = new ArrayList<>();

        Kept(int size) {
            x = new GlulxFrames(size);
        }

        private int keep(int answer, String name, int... numbers) {
            String text = Arrays.toString(numbers);
            latest = name + "(" + text.substring(1, text.length() - 1) + ")";
            calls.add(latest + " = " + answer);
            if (calls.size() == MOST_CALLS + 1) fault("more calls than the document promises answers for");
            return answer;
        }

        int function(int f, int head) { return keep(x.function(f, head), "function", f, head); }
        int format(int f, int width, int count) { return keep(x.format(f, width, count), "format", f, width, count); }
        int accelerate(int f, int number) { return keep(x.accelerate(f, number), "accelerate", f, number); }
        int told(int f, int what) { return keep(x.told(f, what), "told", f, what); }
        int local(int f, int k) { return keep(x.local(f, k), "local", f, k); }
        int call(int f, int n, int way, int address, int pc) {
            return keep(x.call(f, n, way, address, pc), "call", f, n, way, address, pc);
        }
        int leave(int v) { return keep(x.leave(v), "leave", v); }
        int caught(int way, int address, int pc) { return keep(x.caught(way, address, pc), "caught", way, address, pc); }
        int thrown(int token, int v) { return keep(x.thrown(token, v), "thrown", token, v); }
        int tail(int f, int n) { return keep(x.tail(f, n), "tail", f, n); }
        int push(int v) { return keep(x.push(v), "push", v); }
        int pop() { return keep(x.pop(), "pop"); }
        int popped() { return keep(x.popped(), "popped"); }
        int peek(int i) { return keep(x.peek(i), "peek", i); }
        int copy(int n) { return keep(x.copy(n), "copy", n); }
        int roll(int n, int by) { return keep(x.roll(n, by), "roll", n, by); }
        int swap() { return keep(x.swap(), "swap"); }
        int load(int place, int width) { return keep(x.load(place, width), "load", place, width); }
        int store(int place, int width, int v) { return keep(x.store(place, width, v), "store", place, width, v); }
        int byteAt(int i) { return keep(x.byteAt(i), "byteAt", i); }
        int cell(int i) { return keep(x.cell(i), "cell", i); }
        int count(int what) { return keep(x.count(what), "count", what); }
    }

    private interface Scene {
        Kept made();
    }

    private interface Act {
        int on(Kept x);
    }

    /** Each of the calls, on an object of its own, answers so and changes nothing that later calls show. */
    private static void refused(int answer, Scene scene, Act... acts) {
        for (Act act : acts) {
            Kept without = scene.made();
            Kept with = scene.made();
            int got = act.on(with);
            String call = latest;
            due(answer, got);
            List<String> due = later(without);
            List<String> seen = later(with);
            for (int i = 0; i < Math.max(due.size(), seen.size()); i++) {
                String wanted = i < due.size() ? due.get(i) : "no call";
                String found = i < seen.size() ? seen.get(i) : "no call";
                if (!found.equals(wanted)) {
                    fault("behind the refused " + call + " there is " + found + ", due is " + wanted);
                    break;
                }
            }
        }
    }

    /** Each of the calls, on an object of its own, answers so. */
    private static void taken(int answer, Scene scene, Act... acts) {
        for (Act act : acts) due(answer, act.on(scene.made()));
    }

    /** All that can be seen of an object, then what it does till it has neither a token nor a frame. */
    private static List<String> later(Kept x) {
        int from = x.calls.size();
        look(x);
        for (int f = 0; f < 12; f++) {
            for (int what = 0; what <= 3; what++) x.told(f, what);
            x.accelerate(f, 0);
        }
        drain(x);
        for (int i = 0; i < 9 && x.count(5) > 0; i++) {
            x.thrown(x.count(6), 900 + i);
            drain(x);
        }
        for (int i = 0; i < 6 && x.leave(800 + i) >= 0; i++) {
            x.count(3);
            drain(x);
        }
        for (int what = 0; what <= 7; what++) x.count(what);
        x.cell(0);
        x.cell(15);
        return x.calls.subList(from, x.calls.size());
    }

    private static void look(Kept x) {
        for (int what = 0; what <= 7; what++) x.count(what);
        x.popped();
        for (int i = 0; i < 16; i++) x.cell(i);
        for (int i = x.count(0); i >= 0; i--) x.byteAt(i);
    }

    private static void drain(Kept x) {
        for (int i = 0; i < 40 && x.pop() >= 0; i++) x.popped();
        x.load(0, 4);
        x.popped();
    }

    // ---- scenes: functions 0 to 4 are for frames, 5 to 7 accelerated, 8 to 11 without a head that is one

    private static final int BARE = 1;
    private static final int BARE_PUSHED = 2;
    private static final int FOUR = 3;
    private static final int ONE = 4;
    private static final int SUM = 5;
    private static final int DIFFERENCE = 6;
    private static final int POSITIVES = 7;
    private static final int HEADLESS = 8;

    // What a refused call could change unseen were it 0.
    private static final int PC_BEFORE = 99;
    private static final int POPPED_BEFORE = 777;
    private static final int CELL_9_BEFORE = 999;

    private static Kept functions(int size) {
        Kept x = new Kept(size);
        x.function(BARE, 0xC1);
        x.function(BARE_PUSHED, 0xC0);
        x.function(FOUR, 0xC1);
        x.format(FOUR, 4, 4);
        x.function(ONE, 0xC1);
        x.format(ONE, 4, 1);
        x.accelerate(SUM, 1);
        x.accelerate(DIFFERENCE, 2);
        x.accelerate(POSITIVES, 3);
        x.call(BARE, 0, 1, 9, PC_BEFORE);
        x.push(POPPED_BEFORE);
        x.pop();
        x.leave(CELL_9_BEFORE);
        return x;
    }

    /** Without a frame. */
    private static Kept outside() {
        return functions(64);
    }

    /** In the first frame: at 16, its sixteen bytes of locals from 28 on, its values from 44 on. Its answer goes to cell 0. */
    private static Kept inside(int size, int... values) {
        Kept x = functions(size);
        due(16, x.call(FOUR, 0, 1, 0, 100));
        due(44, x.count(0));
        for (int v : values) x.push(v);
        return x;
    }

    private static Kept full() {
        Kept x = inside(64, 1, 2, 3, 4, 5);
        due(64, x.count(0));
        return x;
    }

    /** Values 1, 2, a token at 68, values 3, 4, 5. */
    private static Kept behindToken() {
        Kept x = inside(128, 1, 2);
        due(68, x.caught(0, 0, 61));
        x.push(3);
        x.push(4);
        x.push(5);
        return x;
    }

    /** Values 1, 2 in the first frame, a value 3 in the second, which begins at 68 and ends at 80; its stub as told. */
    private static Kept second(int way, int address) {
        Kept x = inside(128, 1, 2);
        due(68, x.call(BARE, 0, way, address, 62));
        due(1, x.push(3));
        return x;
    }

    /** A token at 60 in the first frame, then a value; a value in the second, then a token at 112 and a value. */
    private static Kept secondWithTokens(int way, int address) {
        Kept x = inside(128);
        due(60, x.caught(1, 5, 64));
        x.push(2);
        due(80, x.call(BARE, 0, way, address, 62));
        x.push(3);
        due(112, x.caught(1, 6, 65));
        x.push(4);
        return x;
    }

    /** A lone frame without locals, whose stub is as told. */
    private static Kept alone(int way, int address) {
        Kept x = functions(64);
        due(16, x.call(BARE, 0, way, address, 63));
        x.push(7);
        return x;
    }

    /** Tokens 64 and 80 in the first frame, 124 in the second one, which begins at 96 and has a value. */
    private static Kept tokens() {
        Kept x = inside(128, 8);
        due(64, x.caught(1, 1, 41));
        due(80, x.caught(1, 2, 42));
        due(96, x.call(BARE, 0, 1, 3, 43));
        due(124, x.caught(1, 4, 44));
        due(1, x.push(9));
        return x;
    }

    private static void values(Kept x, int... wanted) {
        due(wanted.length, x.count(2));
        for (int i = wanted.length - 1; i >= 0; i--) {
            due(1, x.peek(wanted.length - 1 - i));
            due(wanted[i], x.popped());
        }
    }

    private static void loaded(Kept x, int place, int width, int wanted) {
        due(1, x.load(place, width));
        due(wanted, x.popped());
    }

    private static int number(Kept x, int at) {
        int number = 0;
        for (int i = at; i < at + 4; i++) number = number << 8 | x.byteAt(i) & 255;
        latest = "the number at byte " + at;
        return number;
    }

    // ---- the public face and terms

    /** "An object is used for at most 512 calls": the 512th still answers. */
    static void face_512Calls() {
        GlulxFrames x = new GlulxFrames(64);
        x.function(0, 0xC1);
        x.call(0, 0, 0, 0, 0);
        latest = "the 512th call";
        for (int call = 3; call < 512; call += 2) {
            due(1, x.push(call));
            due(0, x.pop());
        }
        due(511, x.popped());
    }

    /** "FP is where THE FRAME at hand begins (NONE without one)": before the first one and behind the last one. */
    static void terms_fpIsNoneWithoutAFrame() {
        Kept x = functions(64);
        due(NONE, x.count(1));
        due(16, x.call(BARE, 0, 0, 0, 0));
        due(16, x.count(1));
        due(NONE, x.leave(0));
        due(NONE, x.count(1));
    }

    /** "then 0, 0, and 0s to a multiple of 4": with an odd number of pairs nothing fills up, with an even one two bytes. */
    static void terms_pairsAreFilledUp() {
        int[] begins = {12, 12, 16, 16, 20, 20, 24};
        Kept x = new Kept(128);
        x.function(0, 0xC1);
        for (int pairs = 0; pairs <= 6; pairs++) {
            if (pairs > 0) due(pairs, x.format(0, 4, pairs));
            due(begins[pairs], x.told(0, 4));
        }
        due(16, x.call(0, 0, 0, 0, 0));
        int[] bytes = {0, 0, 0, 108, 0, 0, 0, 24, 4, 1, 4, 2, 4, 3, 4, 4, 4, 5, 4, 6, 0, 0, 0, 0};
        for (int i = 0; i < bytes.length; i++) due(bytes[i], x.byteAt(16 + i));
    }

    /** "a count (1 .. 255)", "numbers of two or four bytes stand highest byte first": the most that a pair's byte tells. */
    static void terms_aPairOf255() {
        Kept x = new Kept(1024);
        x.function(0, 0xC1);
        due(1, x.format(0, 2, 255));
        due(2, x.format(0, 1, 255));
        due(16, x.call(0, 0, 0, 0, 0));
        int[] bytes = {0, 0, 3, 16, 0, 0, 0, 16, 2, 255, 1, 255, 0, 0, 0, 0};
        due(784, x.told(0, 3));
        for (int i = 0; i < bytes.length; i++) due(bytes[i], x.byteAt(16 + i));
        due(16 + 784, x.count(0));
    }

    /** "each at the next place that is a multiple of its WIDTH": at once if it is one, else behind 0s. */
    static void terms_localsAtTheNextMultiple() {
        for (int ones = 1; ones <= 5; ones++) {
            Kept x = new Kept(64);
            x.function(0, 0xC1);
            x.format(0, 1, ones);
            x.format(0, 2, 1);
            x.format(0, 4, 1);
            int two = (ones + 1) / 2 * 2;
            int four = (two + 2 + 3) / 4 * 4;
            due(ones - 1, x.local(0, ones - 1));
            due(two, x.local(0, ones));
            due(four, x.local(0, ones + 1));
        }
    }

    /** "0s to a multiple of 4": behind 1, 2, 3 bytes of LOCALS three, two, one; behind four of them none. */
    static void terms_localsAreFilledUp() {
        int[] lengths = {16, 16, 16, 16, 20};
        for (int ones = 1; ones <= 5; ones++) {
            Kept x = new Kept(64);
            x.function(0, 0xC1);
            x.format(0, 1, ones);
            due(lengths[ones - 1], x.told(0, 3));
            due(16, x.call(0, 0, 0, 0, 0));
            due(16 + lengths[ones - 1], x.count(0));
            due(NONE, x.byteAt(x.count(0)));
        }
    }

    /** "LOCALS .. all 0", "0s in between": over bytes that were in use before, too. */
    static void terms_newLocalsAre0OverOldBytes() {
        Kept x = inside(128, -1, -1, -1, -1, -1, -1, -1, -1, -1, -1);
        x.function(HEADLESS, 0xC1);
        x.format(HEADLESS, 1, 1);
        x.format(HEADLESS, 4, 1);
        for (int i = 9; i >= 0; i--) due(i, x.pop());
        due(60, x.call(HEADLESS, 0, 0, 0, 0));
        for (int i = 60 + 12; i < 60 + 24; i++) due(0, x.byteAt(i));
        due(NONE, x.byteAt(60 + 24));
    }

    /** "from the latest LIVE TOKEN in it": one of a frame below does not count, and none that is not LIVE any more. */
    static void terms_valuesFromTheLatestLiveToken() {
        Kept x = behindToken();
        due(3, x.count(2));
        due(96, x.call(BARE, 0, 0, 0, 0));
        due(0, x.count(2));
        due(124, x.caught(3, 0, 0));
        due(1, x.count(2));
        due(16, x.leave(0));
        due(3, x.count(2));
        due(16, x.thrown(68, 0));
        due(2, x.count(2));
    }

    /** "A STUB .. FP": NONE is written as -1. */
    static void terms_stubOfTheFirstFrame() {
        Kept x = functions(64);
        due(16, x.call(BARE, 0, 2, MIN, MAX));
        due(2, number(x, 0));
        due(MIN, number(x, 4));
        due(MAX, number(x, 8));
        due(-1, number(x, 12));
    }

    /** "Behind a FAULT all is as before": a fault behind a fault is told again, and the act works when its cause has gone. */
    static void faults_allIsAsBefore() {
        Kept x = full();
        for (int i = 0; i < 3; i++) {
            due(FULL, x.push(6));
            due(FULL, x.caught(3, 0, 0));
            due(FULL, x.call(BARE, 0, 0, 0, 0));
            due(UNDER, x.roll(6, 1));
        }
        due(4, x.pop());
        due(5, x.popped());
        due(5, x.push(6));
        values(x, 1, 2, 3, 4, 6);
    }

    // ---- promise 1

    /** "the nearest of 64 to 1024". */
    static void promise1_nearestOf64To1024() {
        due(64, new Kept(64).count(4));
        due(64, new Kept(63).count(4));
        due(64, new Kept(0).count(4));
        due(64, new Kept(-1).count(4));
        due(64, new Kept(MIN).count(4));
        due(1024, new Kept(1024).count(4));
        due(1024, new Kept(1025).count(4));
        due(1024, new Kept(1027).count(4));
        due(1024, new Kept(MAX).count(4));
    }

    /** "then to a multiple of 4 down". */
    static void promise1_multipleOf4Down() {
        due(64, new Kept(65).count(4));
        due(64, new Kept(67).count(4));
        due(68, new Kept(68).count(4));
        due(1020, new Kept(1020).count(4));
        due(1020, new Kept(1023).count(4));
    }

    /** "THE STACK with so many bytes": the last of them is used, and none behind it. */
    static void promise1_soManyBytes() {
        for (int size = 63; size <= 72; size++) {
            Kept x = inside(size);
            int room = (Math.max(64, size) / 4 * 4 - 44) / 4;
            for (int i = 1; i <= room; i++) due(i, x.push(i));
            due(FULL, x.push(0));
        }
        Kept x = functions(1024);
        due(16, x.call(BARE, 0, 0, 0, 0));
        due(1, x.push(5));
        for (int n = 1; n < 128; n *= 2) due(2 * n, x.copy(n));
        due(249, x.copy(121));
        due(1024, x.count(0));
        due(FULL, x.push(0));
    }

    /** "CELLS .. 0 at first", "HEAD .. 0 at first", "pairs (none at first)", "PC (0 at first)". */
    static void promise1_atFirst() {
        Kept x = new Kept(64);
        for (int i = 0; i < 16; i++) due(0, x.cell(i));
        for (int f = 0; f < 12; f++) {
            due(0, x.told(f, 0));
            due(0, x.told(f, 1));
            due(0, x.accelerate(f, 0));
        }
        int[] counts = {0, NONE, NONE, 0, 64, 0, NONE, 0};
        for (int what = 0; what <= 7; what++) due(counts[what], x.count(what));
        due(NONE, x.byteAt(0));
        due(0, x.popped());
    }

    // ---- promise 2

    private static Kept formatted() {
        Kept x = inside(64, 5);
        x.function(0, 77);
        x.format(0, 2, 3);
        x.function(11, 78);
        x.format(11, 1, 5);
        x.accelerate(11, 2);
        return x;
    }

    /** "FUNCTIONS 0 .. 11": 0 and 11 are taken, -1 and 12 are BAD. */
    static void promise2_functions0To11() {
        taken(1, BoundariesTest::formatted, x -> x.function(0, 9), x -> x.function(11, 9));
        refused(BAD, BoundariesTest::formatted, x -> x.function(-1, 9), x -> x.function(12, 9),
            x -> x.function(MIN, 9), x -> x.function(MAX, 9));
    }

    /** "a HEAD (0 .. 255)": 0 and 255 are taken, -1 and 256 are BAD. */
    static void promise2_head0To255() {
        Kept x = formatted();
        due(1, x.function(0, 0));
        due(0, x.told(0, 0));
        due(1, x.function(0, 255));
        due(255, x.told(0, 0));
        refused(BAD, BoundariesTest::formatted, y -> y.function(0, -1), y -> y.function(0, 256), y -> y.function(11, 256 + 193),
            y -> y.function(11, MIN), y -> y.function(11, MAX));
    }

    /** "its FORMAT without pairs": none is left, and six have a place again. */
    static void promise2_formatWithoutPairs() {
        Kept x = new Kept(64);
        for (int pairs = 1; pairs <= 6; pairs++) due(pairs, x.format(5, 4, pairs));
        due(1, x.function(5, 0));
        due(0, x.told(5, 1));
        due(0, x.told(5, 2));
        due(12, x.told(5, 3));
        due(BAD, x.local(5, 0));
        for (int pairs = 1; pairs <= 6; pairs++) due(pairs, x.format(5, 1, 1));
        due(BAD, x.format(5, 1, 1));
        due(6, x.told(5, 2));
    }

    /** "its FORMAT without pairs": those that were there before get no arguments. */
    static void promise2_argumentsWithoutPairs() {
        Kept x = inside(128, -3, -2, -1);
        due(2, x.format(FOUR, 4, 2));
        due(1, x.function(FOUR, 0xC1));
        due(60, x.call(FOUR, 3, 0, 0, 0));
        due(72, x.count(0));
        due(0, number(x, 68));
        due(0, x.count(2));
        due(16, x.leave(0));
        for (int i = 3; i >= 1; i--) x.push(-i);
        due(1, x.format(FOUR, 1, 1));
        due(60, x.call(FOUR, 3, 0, 0, 0));
        due(76, x.count(0));
        due(0x01010000, number(x, 68));
        due(0xFF000000, number(x, 72));
    }

    /** Nothing but HEAD and FORMAT is set anew: what the FUNCTION is ACCELERATED by stays. */
    static void promise2_acceleratedAsBefore() {
        Kept x = formatted();
        due(1, x.function(11, 0xC1));
        due(2, x.accelerate(11, 0));
    }

    // ---- promise 3

    /** "BAD: FUNCTION": 0 and 11 are taken, -1 and 12 are not. */
    static void promise3_badFunction() {
        taken(2, BoundariesTest::formatted, x -> x.format(0, 1, 1), x -> x.format(11, 1, 1));
        refused(BAD, BoundariesTest::formatted, x -> x.format(-1, 1, 1), x -> x.format(12, 1, 1),
            x -> x.format(MIN, 1, 1), x -> x.format(MAX, 1, 1));
    }

    /** "a WIDTH (1, 2, 4)", "BAD: .. WIDTH". */
    static void promise3_badWidth() {
        taken(2, BoundariesTest::formatted, x -> x.format(0, 1, 1), x -> x.format(0, 2, 1), x -> x.format(0, 4, 1));
        refused(BAD, BoundariesTest::formatted, x -> x.format(0, 0, 1), x -> x.format(0, 3, 1), x -> x.format(0, 5, 1),
            x -> x.format(0, 8, 1), x -> x.format(0, -1, 1), x -> x.format(0, -4, 1), x -> x.format(0, MIN, 1), x -> x.format(0, MAX, 1));
    }

    /** "a count (1 .. 255)", "BAD: .. count". */
    static void promise3_badCount() {
        taken(2, BoundariesTest::formatted, x -> x.format(0, 4, 1), x -> x.format(0, 4, 255));
        refused(BAD, BoundariesTest::formatted, x -> x.format(0, 4, 0), x -> x.format(0, 4, 256), x -> x.format(0, 4, -1),
            x -> x.format(0, 4, 257), x -> x.format(0, 4, MIN), x -> x.format(0, 4, MAX));
    }

    private static Kept sixPairs() {
        Kept x = inside(64);
        for (int pairs = 1; pairs <= 6; pairs++) x.format(0, 1, pairs);
        return x;
    }

    /** "0 to 6 pairs", "BAD: .. a seventh one". */
    static void promise3_badSeventh() {
        Kept x = new Kept(64);
        for (int pairs = 1; pairs <= 6; pairs++) due(pairs, x.format(0, 1, 255));
        refused(BAD, BoundariesTest::sixPairs, y -> y.format(0, 1, 1), y -> y.format(0, 4, 255));
        taken(1, BoundariesTest::sixPairs, y -> y.format(9, 1, 1));
    }

    // ---- promise 4

    /** "BAD": a FUNCTION is 0 .. 11. */
    static void promise4_badFunction() {
        taken(0, BoundariesTest::outside, x -> x.accelerate(0, 1), x -> x.accelerate(11, 1));
        refused(BAD, BoundariesTest::outside, x -> x.accelerate(-1, 1), x -> x.accelerate(12, 1),
            x -> x.accelerate(MIN, 1), x -> x.accelerate(MAX, 1));
    }

    /** "by 1 .. 3, or not (0)": 0 and 3 are taken, -1 and 4 are BAD; what it was stays. */
    static void promise4_badNumber() {
        taken(2, BoundariesTest::outside, x -> x.accelerate(DIFFERENCE, 0), x -> x.accelerate(DIFFERENCE, 1),
            x -> x.accelerate(DIFFERENCE, 2), x -> x.accelerate(DIFFERENCE, 3));
        refused(BAD, BoundariesTest::outside, x -> x.accelerate(DIFFERENCE, -1), x -> x.accelerate(DIFFERENCE, 4),
            x -> x.accelerate(0, 4), x -> x.accelerate(0, MIN), x -> x.accelerate(0, MAX));
    }

    /** "by which it was": 0 at first and behind a 0. */
    static void promise4_byWhichItWas() {
        Kept x = new Kept(64);
        due(0, x.accelerate(0, 3));
        due(3, x.accelerate(0, 3));
        due(3, x.accelerate(0, 0));
        due(0, x.accelerate(0, 0));
        due(0, x.accelerate(0, 1));
        due(1, x.accelerate(0, 0));
    }

    // ---- promise 5

    /** "BAD": a FUNCTION is 0 .. 11. */
    static void promise5_badFunction() {
        taken(77, BoundariesTest::formatted, x -> x.told(0, 0));
        taken(78, BoundariesTest::formatted, x -> x.told(11, 0));
        refused(BAD, BoundariesTest::formatted, x -> x.told(-1, 0), x -> x.told(12, 0), x -> x.told(MIN, 3), x -> x.told(MAX, 3));
    }

    /** "what = 0 .. 4": -1 and 5 are BAD. */
    static void promise5_badWhat() {
        taken(77, BoundariesTest::formatted, x -> x.told(0, 0));
        taken(12, BoundariesTest::formatted, x -> x.told(0, 4));
        refused(BAD, BoundariesTest::formatted, x -> x.told(0, -1), x -> x.told(0, 5), x -> x.told(0, MIN), x -> x.told(0, MAX));
    }

    /** With no pair there are no LOCALS: LENGTH is how far they would be; with all that may be, it is longer than any stack. */
    static void promise5_leastAndMost() {
        Kept x = new Kept(64);
        due(0, x.told(0, 2));
        due(12, x.told(0, 3));
        due(12, x.told(0, 4));
        for (int pairs = 1; pairs <= 6; pairs++) x.format(0, 4, 255);
        due(1530, x.told(0, 2));
        due(24 + 6120, x.told(0, 3));
        due(24, x.told(0, 4));
    }

    // ---- promise 6

    private static Kept fiveLocals() {
        Kept x = inside(64);
        x.function(0, 0);
        x.format(0, 1, 3);
        x.format(0, 4, 2);
        x.function(11, 0);
        x.format(11, 2, 1);
        return x;
    }

    /** "BAD": a FUNCTION is 0 .. 11. */
    static void promise6_badFunction() {
        taken(0, BoundariesTest::fiveLocals, x -> x.local(0, 0), x -> x.local(11, 0));
        refused(BAD, BoundariesTest::fiveLocals, x -> x.local(-1, 0), x -> x.local(12, 0), x -> x.local(MIN, 0), x -> x.local(MAX, 0));
    }

    /** "BAD: also there is none such": the first and the last one are there, -1 and one more are not. */
    static void promise6_badLocal() {
        taken(0, BoundariesTest::fiveLocals, x -> x.local(0, 0));
        taken(2, BoundariesTest::fiveLocals, x -> x.local(0, 2));
        taken(4, BoundariesTest::fiveLocals, x -> x.local(0, 3));
        taken(8, BoundariesTest::fiveLocals, x -> x.local(0, 4));
        refused(BAD, BoundariesTest::fiveLocals, x -> x.local(0, -1), x -> x.local(0, 5), x -> x.local(11, 1),
            x -> x.local(11, -1), x -> x.local(FOUR, -1), x -> x.local(FOUR, 4), x -> x.local(BARE, 0), x -> x.local(0, MIN), x -> x.local(0, MAX));
    }

    // ---- promise 7

    /** "BAD: the FUNCTION". */
    static void promise7_badFunction() {
        taken(1, BoundariesTest::outside, x -> {
            x.accelerate(0, 1);
            return x.call(0, 0, 0, 0, 0);
        }, x -> {
            x.accelerate(11, 1);
            return x.call(11, 0, 0, 0, 0);
        });
        refused(BAD, BoundariesTest::behindToken, x -> x.call(-1, 0, 0, 0, 0), x -> x.call(12, 0, 0, 0, 0),
            x -> x.call(MIN, 1, 3, 0, 0), x -> x.call(MAX, 1, 3, 0, 0));
    }

    /** "n below 0: BAD". */
    static void promise7_badN() {
        taken(96, BoundariesTest::behindToken, x -> x.call(BARE, 0, 0, 0, 0));
        refused(BAD, BoundariesTest::behindToken, x -> x.call(BARE, -1, 0, 0, 0), x -> x.call(BARE_PUSHED, MIN, 0, 0, 0),
            x -> x.call(SUM, -1, 1, 0, 0));
        refused(BAD, BoundariesTest::outside, x -> x.call(BARE, -1, 0, 0, 0));
    }

    /** "BAD: .. WAY (0 .. 3) that is none". */
    static void promise7_badWay() {
        taken(96, BoundariesTest::behindToken, x -> x.call(BARE, 0, 0, 0, 0), x -> x.call(BARE, 0, 3, 0, 0));
        refused(BAD, BoundariesTest::behindToken, x -> x.call(BARE, 0, -1, 0, 0), x -> x.call(BARE, 0, 4, 0, 0),
            x -> x.call(BARE, 1, MIN, 0, 0), x -> x.call(BARE, 1, MAX, 0, 0), x -> x.call(SUM, 1, 4, 0, 0), x -> x.call(SUM, 1, -1, 0, 0));
        refused(BAD, BoundariesTest::outside, x -> x.call(BARE, 0, 4, 0, 0));
    }

    /** A number that is not as told is BAD, whatever fault there is besides. */
    static void promise7_badBeforeFaults() {
        refused(BAD, BoundariesTest::outside, x -> x.call(12, 1, 0, 0, 0), x -> x.call(BARE, 1, 4, 0, 0), x -> x.call(HEADLESS, 0, 4, 0, 0));
        refused(BAD, BoundariesTest::full, x -> x.call(12, 6, 0, 0, 0), x -> x.call(BARE, 6, -1, 0, 0), x -> x.call(BARE, 0, 4, 0, 0));
    }

    /** "NO FRAME (n above 0 without one)": n 0 is taken, 1 is not. */
    static void promise7_noFrame() {
        taken(16, BoundariesTest::outside, x -> x.call(BARE, 0, 0, 0, 0), x -> x.call(BARE_PUSHED, 0, 0, 0, 0));
        taken(1, BoundariesTest::outside, x -> x.call(SUM, 0, 1, 0, 0));
        refused(NO_FRAME, BoundariesTest::outside, x -> x.call(BARE, 1, 0, 0, 0), x -> x.call(BARE_PUSHED, MAX, 0, 0, 0),
            x -> x.call(SUM, 1, 1, 0, 0));
    }

    /** "UNDER: there are not so many VALUES": all of them are taken, one more is not. */
    static void promise7_under() {
        Scene two = () -> inside(128, 1, 2);
        taken(60, two, x -> x.call(BARE, 2, 0, 0, 0));
        taken(1, two, x -> x.call(SUM, 2, 0, 0, 0));
        refused(UNDER, two, x -> x.call(BARE, 3, 0, 0, 0), x -> x.call(BARE, MAX, 0, 0, 0), x -> x.call(BARE, 1 << 30, 0, 0, 0),
            x -> x.call(BARE, 1 << 29, 0, 0, 0), x -> x.call(SUM, 3, 0, 0, 0));
        refused(UNDER, () -> inside(128), x -> x.call(BARE, 1, 0, 0, 0));
    }

    /** "VALUES .. from the latest LIVE TOKEN in it": those below it are not taken. */
    static void promise7_underTheToken() {
        taken(84, BoundariesTest::behindToken, x -> x.call(BARE, 3, 0, 0, 0));
        refused(UNDER, BoundariesTest::behindToken, x -> x.call(BARE, 4, 0, 0, 0), x -> x.call(SUM, 4, 0, 0, 0));
    }

    /** "never under the frame": those of the frame below are not taken. */
    static void promise7_underTheFrame() {
        taken(96, () -> second(0, 0), x -> x.call(BARE, 1, 0, 0, 0));
        refused(UNDER, () -> second(0, 0), x -> x.call(BARE, 2, 0, 0, 0), x -> x.call(SUM, 2, 0, 0, 0));
    }

    private static Kept withHead(int head) {
        Kept x = inside(128, 1, 2);
        x.function(HEADLESS, head);
        return x;
    }

    /** "HEAD: the FUNCTION's is not 0xC0, 0xC1". */
    static void promise7_head() {
        taken(68, () -> withHead(0xC0), x -> x.call(HEADLESS, 0, 0, 0, 0));
        taken(68, () -> withHead(0xC1), x -> x.call(HEADLESS, 0, 0, 0, 0));
        for (int head : new int[] {0xBF, 0xC2, 0, 1, 0x40, 0x41, 255}) {
            refused(HEAD, () -> withHead(head), x -> x.call(HEADLESS, 0, 0, 0, 0), x -> x.call(HEADLESS, 2, 3, 0, 0));
        }
    }

    /** "one that is ACCELERATED is not looked at": and is again when it is not ACCELERATED any more. */
    static void promise7_headOfAccelerated() {
        for (int number = 1; number <= 3; number++) {
            Kept x = inside(64);
            x.accelerate(HEADLESS, number);
            due(1, x.call(HEADLESS, 0, 0, 0, 0));
            x.accelerate(HEADLESS, 0);
            due(HEAD, x.call(HEADLESS, 0, 0, 0, 0));
        }
    }

    /** "FAULTS: NO FRAME, UNDER, HEAD .. in this order": of two that are there the one told first. */
    static void promise7_order() {
        refused(NO_FRAME, BoundariesTest::outside, x -> x.call(HEADLESS, 1, 0, 0, 0));
        refused(HEAD, BoundariesTest::outside, x -> x.call(HEADLESS, 0, 0, 0, 0));
        refused(UNDER, BoundariesTest::full, x -> x.call(HEADLESS, 6, 0, 0, 0), x -> x.call(BARE, 6, 0, 0, 0),
            x -> x.call(SUM, 6, 1, 16, 0));
        refused(HEAD, BoundariesTest::full, x -> x.call(HEADLESS, 0, 0, 0, 0));
        refused(NO_FRAME, BoundariesTest::outside, x -> x.call(SUM, 1, 1, 16, 0));
        refused(WAY, BoundariesTest::full, x -> x.call(SUM, 0, 1, 16, 0), x -> x.call(SUM, 0, 2, 13, 0));
    }

    /** "(ACCELERATED: WAY)": "a CELL not 0 .. 15". */
    static void promise7_wayOfACell() {
        Scene two = () -> inside(128, 1, 2);
        taken(1, two, x -> x.call(SUM, 2, 1, 0, 0), x -> x.call(SUM, 2, 1, 15, 0));
        refused(WAY, two, x -> x.call(SUM, 2, 1, -1, 0), x -> x.call(SUM, 2, 1, 16, 0),
            x -> x.call(SUM, 0, 1, MIN, 0), x -> x.call(SUM, 0, 1, MAX, 0));
        refused(WAY, BoundariesTest::outside, x -> x.call(SUM, 0, 1, -1, 0), x -> x.call(SUM, 0, 1, 16, 0));
        Kept x = inside(128, 1, 2);
        due(1, x.call(SUM, 2, 1, 15, 0));
        due(3, x.cell(15));
        due(0, x.cell(14));
    }

    /** "for LOCALS not 0 to LENGTH less 4, counted from where LOCALS begin": "whatever LOCALS are there". */
    static void promise7_wayOfALocal() {
        Scene two = () -> inside(128, 1, 2);
        taken(1, two, x -> x.call(SUM, 2, 2, 0, 0), x -> x.call(SUM, 2, 2, 1, 0), x -> x.call(SUM, 2, 2, 11, 0), x -> x.call(SUM, 2, 2, 12, 0));
        refused(WAY, two, x -> x.call(SUM, 2, 2, -1, 0), x -> x.call(SUM, 2, 2, 13, 0), x -> x.call(SUM, 2, 2, 16, 0),
            x -> x.call(SUM, 2, 2, -4, 0), x -> x.call(SUM, 0, 2, MIN, 0), x -> x.call(SUM, 0, 2, MAX, 0));
        refused(WAY, () -> second(0, 0), x -> x.call(SUM, 1, 2, 0, 0), x -> x.call(SUM, 1, 2, -4, 0));
        Kept x = inside(128, 0x01020304);
        due(1, x.call(SUM, 1, 2, 11, 0));
        loaded(x, 8, 4, 0x00000001);
        loaded(x, 12, 4, 0x02030400);
    }

    /** "any but 0, 1 without a FRAME". */
    static void promise7_wayWithoutAFrame() {
        taken(1, BoundariesTest::outside, x -> x.call(POSITIVES, 0, 0, 0, 0), x -> x.call(POSITIVES, 0, 1, 0, 0));
        refused(WAY, BoundariesTest::outside, x -> x.call(POSITIVES, 0, 2, 0, 0), x -> x.call(POSITIVES, 0, 3, 0, 0));
    }

    /** The ADDRESS tells something for CELLS and LOCALS alone. */
    static void promise7_addressOfNoAccount() {
        Scene two = () -> inside(128, 1, 2);
        taken(1, two, x -> x.call(SUM, 2, 0, -1, 0), x -> x.call(SUM, 2, 0, MIN, 0), x -> x.call(SUM, 2, 3, -1, 0), x -> x.call(SUM, 2, 3, MAX, 0));
    }

    /** Of one that is not ACCELERATED the way is looked at when it RETURNS, not when it is called. */
    static void promise7_wayIsLookedAtLater() {
        taken(60, () -> inside(128), x -> x.call(BARE, 0, 1, 16, 0), x -> x.call(BARE, 0, 1, -1, 0), x -> x.call(BARE, 0, 2, 13, 0),
            x -> x.call(BARE, 0, 2, MIN, 0));
        taken(16, BoundariesTest::outside, x -> x.call(BARE, 0, 2, 0, 0), x -> x.call(BARE, 0, 3, 0, 0));
    }

    /** "FULL: THE STACK would have to be longer": STUB and FRAME may end where it ends, not four bytes behind. */
    static void promise7_full() {
        Scene fits = () -> inside(72);
        Scene over = () -> inside(72, 1);
        taken(60, fits, x -> x.call(BARE, 0, 0, 0, 0));
        refused(FULL, over, x -> x.call(BARE, 0, 0, 0, 0));
        refused(FULL, fits, x -> x.call(BARE_PUSHED, 0, 0, 0, 0), x -> x.call(ONE, 0, 0, 0, 0));
        Kept x = fits.made();
        due(60, x.call(BARE, 0, 0, 0, 0));
        due(72, x.count(0));
        due(FULL, x.push(1));
    }

    /** "FULL": n itself is PUSHED, too. */
    static void promise7_fullByN() {
        taken(60, () -> inside(76), x -> x.call(BARE_PUSHED, 0, 0, 0, 0));
        refused(FULL, () -> inside(75), x -> x.call(BARE_PUSHED, 0, 0, 0, 0));
    }

    /** "FULL": arguments that are POPPED make room; 0xC0 PUSHES as many again. */
    static void promise7_fullWithArguments() {
        Scene three = () -> inside(72, 1, 2, 3);
        taken(60, three, x -> x.call(BARE, 3, 0, 0, 0));
        refused(FULL, three, x -> x.call(BARE, 2, 0, 0, 0), x -> x.call(BARE_PUSHED, 3, 0, 0, 0));
        taken(60, () -> inside(88, 1, 2, 3), x -> x.call(BARE_PUSHED, 3, 0, 0, 0));
        refused(FULL, () -> inside(84, 1, 2, 3), x -> x.call(BARE_PUSHED, 3, 0, 0, 0), x -> x.call(BARE_PUSHED, 0, 0, 0, 0));
    }

    /** "FULL": a FRAME that is longer than any stack, and one that takes all of it. */
    static void promise7_fullAtOnce() {
        Kept x = new Kept(1024);
        x.function(0, 0xC1);
        for (int pairs = 1; pairs <= 6; pairs++) x.format(0, 4, 255);
        due(FULL, x.call(0, 0, 0, 0, 0));
        x.function(0, 0xC1);
        due(1, x.format(0, 4, 248));
        due(2, x.format(0, 1, 1));
        due(1024 - 16 + 4, x.told(0, 3));
        due(FULL, x.call(0, 0, 0, 0, 0));
        due(0, x.count(0));
        x.function(0, 0xC1);
        due(1, x.format(0, 4, 249));
        due(1024 - 16, x.told(0, 3));
        due(16, x.call(0, 0, 0, 0, 0));
        due(1024, x.count(0));
    }

    /** "(ACCELERATED: ..), FULL": only what is PUSHED without an argument that made room for it. */
    static void promise7_fullAccelerated() {
        taken(1, BoundariesTest::full, x -> x.call(SUM, 1, 3, 0, 0), x -> x.call(SUM, 5, 3, 0, 0), x -> x.call(SUM, 0, 0, 0, 0),
            x -> x.call(SUM, 0, 1, 0, 0), x -> x.call(SUM, 0, 2, 12, 0));
        refused(FULL, BoundariesTest::full, x -> x.call(SUM, 0, 3, 0, 0), x -> x.call(POSITIVES, 0, 3, 0, 0));
        taken(1, () -> inside(64, 1, 2, 3, 4), x -> x.call(SUM, 0, 3, 0, 0));
    }

    /** "as many as there are of both": fewer arguments than LOCALS, as many, more; never those of an earlier call. */
    static void promise7_asManyAsOfBoth() {
        for (int n = 0; n <= 6; n++) {
            Kept x = inside(128, 16, 15, 14, 13, 12, 11);
            due(60, x.call(FOUR, 6, 0, 0, 0));
            due(16, x.leave(0));
            for (int v = 6; v >= 1; v--) x.push(v);
            due(16 + 28 + 4 * (6 - n) + 16, x.call(FOUR, n, 0, 0, 0));
            for (int k = 0; k < 4; k++) loaded(x, 4 * k, 4, k < n ? k + 1 : 0);
            due(0, x.count(2));
            due(16, x.leave(0));
            due(6 - n, x.count(2));
        }
        Kept x = inside(128, 1);
        due(60, x.call(BARE, 1, 0, 0, 0));
        due(0, x.count(2));
    }

    /** "each cut to its WIDTH": the highest number that has a place, and the next one. */
    static void promise7_cutToItsWidth() {
        Kept x = inside(256);
        x.function(HEADLESS, 0xC1);
        x.format(HEADLESS, 1, 4);
        x.format(HEADLESS, 2, 4);
        x.format(HEADLESS, 4, 1);
        for (int v : new int[] {MIN, -32769, -1, 65536, 65535, -129, -1, 256, 255}) x.push(v);
        due(60, x.call(HEADLESS, 9, 0, 0, 0));
        int[] ones = {255, 0, 255, 127};
        int[] twos = {65535, 0, 65535, 32767};
        for (int k = 0; k < 4; k++) loaded(x, k, 1, ones[k]);
        for (int k = 0; k < 4; k++) loaded(x, 4 + 2 * k, 2, twos[k]);
        loaded(x, 12, 4, MIN);
    }

    /** "the arguments are PUSHED, the last first, then n": with n 0 that is 0 alone. */
    static void promise7_argumentsPushed() {
        for (int n = 0; n <= 3; n++) {
            Kept x = inside(128, 30, 20, 10);
            due(16 + 28 + 4 * (3 - n) + 16, x.call(BARE_PUSHED, n, 0, 0, 0));
            due(n + 1, x.count(2));
            due(n, x.pop());
            due(n, x.popped());
            for (int k = 0; k < n; k++) {
                due(n - 1 - k, x.pop());
                due(10 * (k + 1), x.popped());
            }
            due(UNDER, x.pop());
        }
    }

    /** With a value below the arguments, and one behind them that has gone: neither is of account. */
    private static void given(int wanted, int f, int... arguments) {
        Kept x = inside(128, 500000);
        for (int i = arguments.length - 1; i >= 0; i--) x.push(arguments[i]);
        x.push(7000000);
        x.pop();
        due(1, x.call(f, arguments.length, 1, 5, 0));
        due(wanted, x.cell(5));
        values(x, 500000);
    }

    /** "1: the sum of its arguments": of none it is 0, and it goes round like an int. */
    static void promise7_sum() {
        given(0, SUM);
        given(-7, SUM, -7);
        given(MIN, SUM, MAX, 1);
        given(0, SUM, MIN, MIN);
        given(6, SUM, 1, 2, 3);
    }

    /** "2: the first less all others (0 without any)": the first is the last VALUE. */
    static void promise7_difference() {
        given(0, DIFFERENCE);
        given(-7, DIFFERENCE, -7);
        given(5, DIFFERENCE, 10, 3, 2);
        given(MAX, DIFFERENCE, MIN, 1);
        given(MIN, DIFFERENCE, 0, MIN);
    }

    /** "3: how many are above 0": 1 is, 0 is not. */
    static void promise7_positives() {
        given(0, POSITIVES);
        given(0, POSITIVES, 0);
        given(1, POSITIVES, 1);
        given(0, POSITIVES, -1);
        given(2, POSITIVES, MIN, MAX, 0, 1, -1);
    }

    // ---- promise 8

    /** "FAULTS: NO FRAME": before the first frame and behind the last. */
    static void promise8_noFrame() {
        refused(NO_FRAME, BoundariesTest::outside, x -> x.leave(1));
        refused(NO_FRAME, () -> {
            Kept x = inside(64, 5);
            due(NONE, x.leave(3));
            return x;
        }, x -> x.leave(1));
    }

    /** "FP then (NONE: none)". */
    static void promise8_fpThen() {
        Kept x = second(0, 0);
        due(16, x.leave(1));
        due(NONE, x.leave(2));
        due(2, x.cell(0));
        due(100, x.count(3));
    }

    /** "WAY": "a CELL not 0 .. 15", in the lone frame and in a second one. */
    static void promise8_wayOfACell() {
        taken(16, () -> second(1, 0), x -> x.leave(1));
        taken(16, () -> second(1, 15), x -> x.leave(1));
        taken(NONE, () -> alone(1, 0), x -> x.leave(1));
        taken(NONE, () -> alone(1, 15), x -> x.leave(1));
        for (int cell : new int[] {-1, 16, MIN, MAX}) {
            refused(WAY, () -> second(1, cell), x -> x.leave(1));
            refused(WAY, () -> alone(1, cell), x -> x.leave(1));
        }
    }

    /** "Behind a FAULT all is as before": the frame's tokens are LIVE behind a RETURN that was refused. */
    static void promise8_tokensStay() {
        taken(16, () -> secondWithTokens(1, 15), x -> x.leave(1));
        refused(WAY, () -> secondWithTokens(1, 16), x -> x.leave(1));
        refused(WAY, () -> secondWithTokens(2, 13), x -> x.leave(1));
        Kept x = secondWithTokens(1, 16);
        due(WAY, x.leave(1));
        due(80, x.thrown(112, 8));
        due(8, x.cell(6));
        values(x, 3);
    }

    /** "for LOCALS not 0 to LENGTH less 4 .. (of THE FRAME in which it GOES)": of the one below, not of the one that goes. */
    static void promise8_wayOfALocal() {
        for (int place : new int[] {0, 1, 11, 12}) {
            Kept x = second(2, place);
            due(16, x.leave(0x01020304));
            loaded(x, place, 4, 0x01020304);
            values(x, 1, 2);
        }
        for (int place : new int[] {-1, 13, 16, -4, -12, MIN, MAX}) refused(WAY, () -> second(2, place), x -> x.leave(1));
        Scene shorter = () -> {
            Kept x = functions(128);
            due(16, x.call(ONE, 0, 0, 0, 0));
            due(48, x.call(FOUR, 0, 2, 1, 0));
            return x;
        };
        refused(WAY, shorter, x -> x.leave(1));
        Scene shortest = () -> {
            Kept x = functions(128);
            due(16, x.call(BARE, 0, 0, 0, 0));
            due(44, x.call(FOUR, 0, 2, 0, 0));
            return x;
        };
        refused(WAY, shortest, x -> x.leave(1));
    }

    /** "any but 0, 1 without a FRAME": the lone frame's value goes where there is none. */
    static void promise8_wayWithoutAFrame() {
        taken(NONE, () -> alone(0, -1), x -> x.leave(1));
        taken(NONE, () -> alone(1, 1), x -> x.leave(1));
        refused(WAY, () -> alone(2, 0), x -> x.leave(1));
        refused(WAY, () -> alone(3, 0), x -> x.leave(1));
    }

    /** "0: nothing", "3: it is PUSHED": the ADDRESS is of no account. */
    static void promise8_addressOfNoAccount() {
        for (int address : new int[] {-1, 16, MIN, MAX}) {
            Kept x = second(0, address);
            due(16, x.leave(9));
            values(x, 1, 2);
            x = second(3, address);
            due(16, x.leave(9));
            values(x, 1, 2, 9);
        }
    }

    /** "SP becomes FP": whatever stands in the frame goes, its tokens too; a full stack is no hindrance to what is PUSHED. */
    static void promise8_ofAFullStack() {
        Kept x = inside(96, 1, 2);
        due(68, x.call(BARE, 0, 3, 0, 62));
        due(96, x.caught(1, 1, 0));
        due(96, x.count(0));
        due(16, x.leave(9));
        values(x, 1, 2, 9);
        due(0, x.count(5));
        due(56, x.count(0));
    }

    // ---- promise 9

    /** "BAD: WAY": 0 and 3 are taken, -1 and 4 are not. */
    static void promise9_badWay() {
        taken(96, BoundariesTest::behindToken, x -> x.caught(0, 0, 0), x -> x.caught(3, 0, 0));
        refused(BAD, BoundariesTest::behindToken, x -> x.caught(-1, 0, 0), x -> x.caught(4, 0, 0), x -> x.caught(MIN, 0, 0), x -> x.caught(MAX, 0, 0));
    }

    /** "BAD: WAY; NO FRAME; WAY; FULL": of two that are there the one told first. */
    static void promise9_order() {
        refused(BAD, BoundariesTest::outside, x -> x.caught(4, 0, 0), x -> x.caught(-1, 0, 0));
        refused(BAD, BoundariesTest::full, x -> x.caught(4, 0, 0));
        refused(NO_FRAME, BoundariesTest::outside, x -> x.caught(1, 16, 0), x -> x.caught(2, 0, 0), x -> x.caught(3, 0, 0));
        refused(WAY, BoundariesTest::full, x -> x.caught(1, 16, 0), x -> x.caught(2, 13, 0));
    }

    /** "NO FRAME". */
    static void promise9_noFrame() {
        refused(NO_FRAME, BoundariesTest::outside, x -> x.caught(0, 0, 0), x -> x.caught(1, 0, 0));
    }

    /** "WAY": "a CELL not 0 .. 15". */
    static void promise9_wayOfACell() {
        for (int cell : new int[] {0, 15}) {
            Kept x = behindToken();
            due(96, x.caught(1, cell, 0));
            due(96, x.cell(cell));
        }
        refused(WAY, BoundariesTest::behindToken, x -> x.caught(1, -1, 0), x -> x.caught(1, 16, 0), x -> x.caught(1, MIN, 0), x -> x.caught(1, MAX, 0));
    }

    /** "WAY": "for LOCALS not 0 to LENGTH less 4". */
    static void promise9_wayOfALocal() {
        for (int place : new int[] {0, 12}) {
            Kept x = behindToken();
            due(96, x.caught(2, place, 0));
            loaded(x, place, 4, 96);
        }
        refused(WAY, BoundariesTest::behindToken, x -> x.caught(2, -1, 0), x -> x.caught(2, 13, 0), x -> x.caught(2, MIN, 0), x -> x.caught(2, MAX, 0));
        refused(WAY, () -> second(0, 0), x -> x.caught(2, 0, 0));
    }

    /** "FULL": the STUB may end where the stack ends, not four bytes behind. */
    static void promise9_fullByTheStub() {
        taken(64, () -> inside(64, 1), x -> x.caught(0, 0, 0), x -> x.caught(1, 0, 0), x -> x.caught(2, 0, 0));
        refused(FULL, () -> inside(64, 1, 2), x -> x.caught(0, 0, 0), x -> x.caught(1, 0, 0), x -> x.caught(2, 0, 0), x -> x.caught(3, 0, 0));
        refused(FULL, BoundariesTest::full, x -> x.caught(0, 0, 0));
    }

    /** "FULL .. (at whatever time of the act)": the STUB has a place, the TOKEN that is PUSHED behind it has none. */
    static void promise9_fullByTheToken() {
        taken(60, () -> inside(64), x -> x.caught(3, 0, 0));
        refused(FULL, () -> inside(64, 1), x -> x.caught(3, 0, 0));
    }

    /** "(What it PUSHED stands behind the STUB.)": it is the one VALUE then; by another way there is none. */
    static void promise9_pushedBehindTheStub() {
        Kept x = inside(128, 1, 2);
        due(68, x.caught(3, 0, 0));
        values(x, 68);
        due(72, x.count(0));
        x = inside(128, 1, 2);
        due(68, x.caught(0, 0, 0));
        values(x);
        due(68, x.count(0));
    }

    /** As many tokens as the stack has places for stubs. */
    static void promise9_asManyAsFit() {
        Kept x = functions(1024);
        due(16, x.call(BARE, 0, 0, 0, 0));
        int tokens = 0;
        while (tokens < 100 && x.caught(0, 0, tokens) > 0) tokens++;
        latest = "how many were caught";
        due((1024 - 28) / 16, tokens);
        due(tokens, x.count(5));
        due(28 + 16 * tokens, x.count(6));
        due(16, x.thrown(28 + 16, 0));
        due(0, x.count(5));
        due(28, x.count(0));
    }

    // ---- promise 10

    /** "TOKEN: none LIVE": there is no token at all. */
    static void promise10_none() {
        refused(TOKEN, BoundariesTest::outside, x -> x.thrown(0, 1), x -> x.thrown(NONE, 1), x -> x.thrown(16, 1));
        refused(TOKEN, () -> inside(128, 1), x -> x.thrown(0, 1), x -> x.thrown(NONE, 1), x -> x.thrown(16, 1), x -> x.thrown(44, 1),
            x -> x.thrown(48, 1));
    }

    /** "TOKEN: none LIVE": one beside a token, places of stubs, frames and values, and numbers that are no place. */
    static void promise10_noneSuch() {
        taken(16, BoundariesTest::tokens, x -> x.thrown(64, 1), x -> x.thrown(80, 1));
        taken(96, BoundariesTest::tokens, x -> x.thrown(124, 1));
        refused(TOKEN, BoundariesTest::tokens, x -> x.thrown(63, 1), x -> x.thrown(65, 1), x -> x.thrown(48, 1), x -> x.thrown(60, 1),
            x -> x.thrown(68, 1), x -> x.thrown(79, 1), x -> x.thrown(81, 1), x -> x.thrown(16, 1), x -> x.thrown(96, 1), x -> x.thrown(108, 1),
            x -> x.thrown(123, 1), x -> x.thrown(125, 1), x -> x.thrown(128, 1), x -> x.thrown(0, 1), x -> x.thrown(NONE, 1),
            x -> x.thrown(MIN, 1), x -> x.thrown(MAX, 1), x -> x.thrown(64 + 65536, 1), x -> x.thrown(-64, 1));
    }

    private static Scene behind(Act act) {
        return () -> {
            Kept x = tokens();
            act.on(x);
            return x;
        };
    }

    /** "It is LIVE till .. something is THROWN to it or to an earlier one"; "that TOKEN and later ones are not LIVE any more". */
    static void promise10_thrownToIsNotLive() {
        refused(TOKEN, behind(x -> x.thrown(124, 1)), x -> x.thrown(124, 2));
        taken(16, behind(x -> x.thrown(124, 1)), x -> x.thrown(80, 2), x -> x.thrown(64, 2));
        refused(TOKEN, behind(x -> x.thrown(80, 1)), x -> x.thrown(80, 2), x -> x.thrown(124, 2));
        taken(16, behind(x -> x.thrown(80, 1)), x -> x.thrown(64, 2));
        refused(TOKEN, behind(x -> x.thrown(64, 1)), x -> x.thrown(64, 2), x -> x.thrown(80, 2), x -> x.thrown(124, 2));
        int[][] left = {{124, 2, 80}, {80, 1, 64}, {64, 0, NONE}};
        for (int[] l : left) {
            Kept x = tokens();
            x.thrown(l[0], 1);
            due(l[1], x.count(5));
            due(l[2], x.count(6));
        }
    }

    /** "It is LIVE till its FRAME goes": by a RETURN, by a TAIL CALL, by one that is ACCELERATED; those below stay. */
    static void promise10_frameHasGone() {
        List<Act> goes = List.of(x -> x.leave(1), x -> x.tail(BARE, 0), x -> x.tail(SUM, 0));
        for (Act act : goes) {
            refused(TOKEN, behind(act), x -> x.thrown(124, 2));
            taken(16, behind(act), x -> x.thrown(80, 2), x -> x.thrown(64, 2));
            Kept x = behind(act).made();
            due(2, x.count(5));
            due(80, x.count(6));
        }
        refused(TOKEN, behind(x -> x.leave(1) + x.leave(1)), x -> x.thrown(64, 2), x -> x.thrown(80, 2), x -> x.thrown(124, 2));
    }

    /** A place may be a token's once more; the latest one is that which counts. */
    static void promise10_caughtAnew() {
        Kept x = tokens();
        due(16, x.thrown(80, 7));
        due(7, x.cell(2));
        due(42, x.count(3));
        due(64, x.count(0));
        due(80, x.caught(1, 9, 45));
        due(2, x.count(5));
        due(16, x.thrown(80, 8));
        due(8, x.cell(9));
        due(45, x.count(3));
    }

    /** "SP becomes it, the STUB is POPPED": what was PUSHED behind goes; what GOES by way 3 stands where the STUB did. */
    static void promise10_whatIsPushed() {
        Kept x = inside(64, 1);
        due(FULL, x.caught(3, 0, 5));
        due(0, x.pop());
        due(60, x.caught(3, 0, 5));
        due(64, x.count(0));
        due(16, x.thrown(60, 9));
        values(x, 9);
        due(48, x.count(0));
        due(5, x.count(3));
    }

    // ---- promise 11

    /** "BAD": the FUNCTION, n below 0. */
    static void promise11_bad() {
        taken(16, BoundariesTest::behindToken, x -> x.tail(BARE, 0));
        refused(BAD, BoundariesTest::behindToken, x -> x.tail(-1, 0), x -> x.tail(12, 0), x -> x.tail(MIN, 0), x -> x.tail(MAX, 0),
            x -> x.tail(BARE, -1), x -> x.tail(BARE, MIN), x -> x.tail(SUM, -1));
        taken(NONE, BoundariesTest::behindToken, x -> {
            x.accelerate(0, 1);
            return x.tail(0, 0);
        }, x -> {
            x.accelerate(11, 1);
            return x.tail(11, 0);
        });
    }

    /** "NO FRAME": also with n 0. */
    static void promise11_noFrame() {
        refused(NO_FRAME, BoundariesTest::outside, x -> x.tail(BARE, 0), x -> x.tail(BARE, 1), x -> x.tail(SUM, 0));
    }

    /** "UNDER": all VALUES are taken, one more is not; none from below a token or the frame. */
    static void promise11_under() {
        taken(16, BoundariesTest::behindToken, x -> x.tail(BARE, 3));
        taken(NONE, BoundariesTest::behindToken, x -> x.tail(SUM, 3));
        refused(UNDER, BoundariesTest::behindToken, x -> x.tail(BARE, 4), x -> x.tail(SUM, 4), x -> x.tail(BARE, MAX), x -> x.tail(BARE, 1 << 30));
        taken(68, () -> second(0, 0), x -> x.tail(BARE, 1));
        refused(UNDER, () -> second(0, 0), x -> x.tail(BARE, 2), x -> x.tail(SUM, 2));
    }

    /** "HEAD", but for one that is ACCELERATED. */
    static void promise11_head() {
        taken(16, () -> withHead(0xC0), x -> x.tail(HEADLESS, 2));
        taken(16, () -> withHead(0xC1), x -> x.tail(HEADLESS, 2));
        for (int head : new int[] {0xBF, 0xC2, 0, 255}) {
            refused(HEAD, () -> withHead(head), x -> x.tail(HEADLESS, 2));
            taken(NONE, () -> withHead(head), x -> {
                x.accelerate(HEADLESS, 3);
                return x.tail(HEADLESS, 2);
            });
        }
    }

    /** "FULL": the new frame may end where the stack ends, not four bytes behind; the old one and its arguments have gone. */
    static void promise11_full() {
        Scene nine = () -> {
            Kept x = full();
            x.function(HEADLESS, 0xC1);
            x.format(HEADLESS, 4, 9);
            return x;
        };
        taken(16, nine, x -> x.tail(HEADLESS, 5), x -> x.tail(HEADLESS, 0));
        Kept x = nine.made();
        due(16, x.tail(HEADLESS, 5));
        due(64, x.count(0));
        due(FULL, x.push(1));
        Scene ten = () -> {
            Kept y = nine.made();
            y.format(HEADLESS, 1, 1);
            return y;
        };
        refused(FULL, ten, y -> y.tail(HEADLESS, 5), y -> y.tail(HEADLESS, 0));
    }

    /** "FULL": of 0xC0 the arguments and n are PUSHED, too. */
    static void promise11_fullByArguments() {
        Scene eight = () -> {
            Kept x = functions(64);
            due(16, x.call(BARE, 0, 0, 0, 0));
            for (int i = 1; i <= 9; i++) x.push(i);
            return x;
        };
        taken(16, eight, x -> x.tail(BARE_PUSHED, 8));
        refused(FULL, eight, x -> x.tail(BARE_PUSHED, 9));
    }

    /** "BAD; NO FRAME, UNDER; HEAD; FULL": of two that are there the one told first. */
    static void promise11_order() {
        refused(BAD, BoundariesTest::outside, x -> x.tail(12, 0), x -> x.tail(BARE, -1));
        refused(BAD, BoundariesTest::full, x -> x.tail(12, 9));
        refused(NO_FRAME, BoundariesTest::outside, x -> x.tail(HEADLESS, 0), x -> x.tail(HEADLESS, 1));
        refused(UNDER, BoundariesTest::full, x -> x.tail(HEADLESS, 6));
        Scene long0 = () -> {
            Kept x = full();
            x.format(HEADLESS, 4, 255);
            x.function(9, 0xC1);
            x.format(9, 4, 255);
            return x;
        };
        refused(HEAD, long0, x -> x.tail(HEADLESS, 0));
        refused(UNDER, long0, x -> x.tail(9, 6));
        refused(FULL, long0, x -> x.tail(9, 5));
        refused(UNDER, () -> second(1, 16), x -> x.tail(SUM, 2));
    }

    /** "One that is ACCELERATED: it is a RETURN of what it gives: WAY". */
    static void promise11_acceleratedWay() {
        taken(16, () -> second(1, 15), x -> x.tail(SUM, 1));
        refused(WAY, () -> second(1, 16), x -> x.tail(SUM, 1));
        refused(WAY, () -> second(1, -1), x -> x.tail(SUM, 0));
        taken(16, () -> second(2, 12), x -> x.tail(SUM, 1));
        refused(WAY, () -> second(2, 13), x -> x.tail(SUM, 1));
        refused(WAY, () -> second(2, -1), x -> x.tail(SUM, 1));
        taken(NONE, () -> alone(1, 0), x -> x.tail(SUM, 1));
        taken(NONE, () -> alone(0, 0), x -> x.tail(SUM, 1));
        refused(WAY, () -> alone(2, 0), x -> x.tail(SUM, 1));
        refused(WAY, () -> alone(3, 0), x -> x.tail(SUM, 1));
    }

    /** "One that is ACCELERATED: it is a RETURN": FP then, NONE behind the last; PC is the stub's. */
    static void promise11_acceleratedIsAReturn() {
        Kept x = second(3, 0);
        due(2, x.push(40));
        due(16, x.tail(SUM, 2));
        values(x, 1, 2, 43);
        due(62, x.count(3));
        due(NONE, x.tail(DIFFERENCE, 3));
        due(40, x.cell(0));
        due(100, x.count(3));
        due(0, x.count(0));
    }

    /** "Behind a FAULT all is as before": the frame's tokens are LIVE behind a TAIL CALL that was refused. */
    static void promise11_tokensStay() {
        Scene way = () -> {
            Kept x = secondWithTokens(1, 16);
            x.function(HEADLESS, 0xC1);
            x.format(HEADLESS, 1, 37);
            return x;
        };
        taken(80, way, x -> x.tail(BARE, 1));
        refused(UNDER, way, x -> x.tail(BARE, 2), x -> x.tail(SUM, 2));
        refused(HEAD, way, x -> x.tail(0, 1));
        refused(FULL, way, x -> x.tail(HEADLESS, 1));
        refused(WAY, way, x -> x.tail(SUM, 1));
        refused(BAD, way, x -> x.tail(12, 1), x -> x.tail(BARE, -1));
    }

    /** "the STUB below stays", "the new FRAME (with them) stands where it was": PC too is as before. */
    static void promise11_stubStays() {
        Kept x = second(1, 7);
        due(68, x.tail(FOUR, 1));
        loaded(x, 0, 4, 3);
        loaded(x, 12, 4, 0);
        due(PC_BEFORE, x.count(3));
        due(16, x.leave(5));
        due(5, x.cell(7));
        due(62, x.count(3));
    }

    // ---- promise 12

    /** "without a FRAME: NO FRAME". */
    static void promise12_noFrame() {
        refused(NO_FRAME, BoundariesTest::outside, x -> x.push(1));
    }

    /** "FULL": the last four bytes are taken, four more are not there. */
    static void promise12_full() {
        taken(5, () -> inside(64, 1, 2, 3, 4), x -> x.push(5));
        refused(FULL, BoundariesTest::full, x -> x.push(6));
    }

    /** "how many VALUES": of the frame at hand, behind its latest LIVE TOKEN. */
    static void promise12_howMany() {
        taken(1, () -> inside(128), x -> x.push(MIN));
        taken(4, BoundariesTest::behindToken, x -> x.push(MAX));
        taken(2, () -> second(0, 0), x -> x.push(-1));
    }

    // ---- promise 13

    /** "NO FRAME". */
    static void promise13_noFrame() {
        refused(NO_FRAME, BoundariesTest::outside, x -> x.pop());
    }

    /** "UNDER": the last VALUE is taken, none from below the frame's begin or its token. */
    static void promise13_under() {
        taken(0, () -> inside(128, 5), x -> x.pop());
        refused(UNDER, () -> inside(128), x -> x.pop());
        refused(UNDER, () -> {
            Kept x = second(0, 0);
            due(0, x.pop());
            due(3, x.popped());
            return x;
        }, x -> x.pop());
        refused(UNDER, () -> {
            Kept x = behindToken();
            for (int i = 2; i >= 0; i--) due(i, x.pop());
            return x;
        }, x -> x.pop());
    }

    // ---- promise 14

    /** "0 before": and a pop() that was refused took nothing. */
    static void promise14_before() {
        Kept x = new Kept(64);
        due(0, x.popped());
        due(NO_FRAME, x.pop());
        due(0, x.popped());
        x.function(0, 0xC1);
        due(16, x.call(0, 0, 0, 0, 0));
        due(UNDER, x.pop());
        due(0, x.popped());
        x.push(8);
        due(0, x.popped());
        due(0, x.pop());
        due(8, x.popped());
        due(UNDER, x.pop());
        due(8, x.popped());
        due(8, x.popped());
    }

    // ---- promise 15

    /** "NO FRAME". */
    static void promise15_noFrame() {
        refused(NO_FRAME, BoundariesTest::outside, x -> x.peek(0), x -> x.peek(-1));
    }

    /** "from the last one (0) on", "UNDER: none such": the first VALUE is there, one below is not; nor is one behind the last. */
    static void promise15_under() {
        Kept x = inside(128, 7, 8);
        due(1, x.peek(0));
        due(8, x.popped());
        due(1, x.peek(1));
        due(7, x.popped());
        refused(UNDER, () -> inside(128, 7, 8), y -> y.peek(2), y -> y.peek(-1), y -> y.peek(MIN), y -> y.peek(MAX), y -> y.peek(1 << 30));
        refused(UNDER, () -> inside(128), y -> y.peek(0));
        taken(1, BoundariesTest::behindToken, y -> y.peek(2));
        refused(UNDER, BoundariesTest::behindToken, y -> y.peek(3));
        taken(1, () -> second(0, 0), y -> y.peek(0));
        refused(UNDER, () -> second(0, 0), y -> y.peek(1));
    }

    // ---- promise 16

    /** "BAD: n below 0". */
    static void promise16_bad() {
        taken(3, BoundariesTest::behindToken, x -> x.copy(0));
        refused(BAD, BoundariesTest::behindToken, x -> x.copy(-1), x -> x.copy(MIN));
        refused(BAD, BoundariesTest::outside, x -> x.copy(-1));
    }

    /** "NO FRAME": also with n 0. */
    static void promise16_noFrame() {
        refused(NO_FRAME, BoundariesTest::outside, x -> x.copy(0), x -> x.copy(1));
    }

    /** "UNDER": all VALUES may be copied, not one more. */
    static void promise16_under() {
        taken(6, BoundariesTest::behindToken, x -> x.copy(3));
        refused(UNDER, BoundariesTest::behindToken, x -> x.copy(4), x -> x.copy(MAX), x -> x.copy(1 << 30), x -> x.copy(1 << 29));
        taken(2, () -> second(0, 0), x -> x.copy(1));
        refused(UNDER, () -> second(0, 0), x -> x.copy(2));
        taken(0, () -> inside(64), x -> x.copy(0));
        refused(UNDER, () -> inside(64), x -> x.copy(1));
    }

    /** "FULL": as many as there is room for, not one more; none at all always has room. */
    static void promise16_full() {
        Scene three = () -> inside(64, 1, 2, 3);
        taken(5, three, x -> x.copy(2));
        refused(FULL, three, x -> x.copy(3));
        taken(5, BoundariesTest::full, x -> x.copy(0));
        refused(FULL, BoundariesTest::full, x -> x.copy(1), x -> x.copy(5));
    }

    /** "NO FRAME, UNDER, FULL": of two that are there the one told first. */
    static void promise16_order() {
        refused(UNDER, BoundariesTest::full, x -> x.copy(6));
        refused(BAD, BoundariesTest::full, x -> x.copy(-1));
    }

    /** "in their order": one, some, all. */
    static void promise16_inTheirOrder() {
        Kept x = inside(128, 1, 2, 3);
        due(4, x.copy(1));
        values(x, 1, 2, 3, 3);
        due(7, x.copy(3));
        values(x, 1, 2, 3, 3, 2, 3, 3);
        due(14, x.copy(7));
        values(x, 1, 2, 3, 3, 2, 3, 3, 1, 2, 3, 3, 2, 3, 3);
    }

    // ---- promise 17

    /** "BAD: n below 0". */
    static void promise17_bad() {
        taken(1, BoundariesTest::behindToken, x -> x.roll(0, 1));
        refused(BAD, BoundariesTest::behindToken, x -> x.roll(-1, 1), x -> x.roll(MIN, 1), x -> x.roll(-3, 0));
        refused(BAD, BoundariesTest::outside, x -> x.roll(-1, 1));
    }

    /** "NO FRAME": also with n 0. */
    static void promise17_noFrame() {
        refused(NO_FRAME, BoundariesTest::outside, x -> x.roll(0, 1), x -> x.roll(1, 1));
    }

    /** "UNDER": all VALUES may be rolled, not one more. */
    static void promise17_under() {
        taken(1, BoundariesTest::behindToken, x -> x.roll(3, 1));
        refused(UNDER, BoundariesTest::behindToken, x -> x.roll(4, 1), x -> x.roll(4, 0), x -> x.roll(MAX, 1), x -> x.roll(1 << 30, 1));
        taken(1, () -> second(0, 0), x -> x.roll(1, 1));
        refused(UNDER, () -> second(0, 0), x -> x.roll(2, 1));
        refused(UNDER, () -> inside(64), x -> x.roll(1, 0));
    }

    private static void rolled(int n, int by, int... wanted) {
        Kept x = inside(128, 1, 2, 3, 4);
        due(1, x.roll(n, by));
        values(x, wanted);
    }

    /** "(n 0: nothing.)", whatever by is; of one it is nothing, too. */
    static void promise17_nothing() {
        for (int by : new int[] {0, 1, -1, MIN, MAX}) {
            rolled(0, by, 1, 2, 3, 4);
            rolled(1, by, 1, 2, 3, 4);
        }
        taken(1, () -> inside(64), x -> x.roll(0, 3));
        taken(1, BoundariesTest::full, x -> x.roll(0, 3), x -> x.roll(5, 3));
    }

    /** "by so many places up", "below 0 down": round once, one more, one less, and the least and the greatest int. */
    static void promise17_round() {
        rolled(3, 0, 1, 2, 3, 4);
        rolled(3, 1, 1, 4, 2, 3);
        rolled(3, 2, 1, 3, 4, 2);
        rolled(3, 3, 1, 2, 3, 4);
        rolled(3, 4, 1, 4, 2, 3);
        rolled(3, -1, 1, 3, 4, 2);
        rolled(3, -2, 1, 4, 2, 3);
        rolled(3, -3, 1, 2, 3, 4);
        rolled(3, -4, 1, 3, 4, 2);
        rolled(3, MAX, 1, 4, 2, 3);
        rolled(3, MIN, 1, 4, 2, 3);
        rolled(4, MIN, 1, 2, 3, 4);
        rolled(4, MAX, 2, 3, 4, 1);
        rolled(4, 1, 4, 1, 2, 3);
    }

    // ---- promise 18

    /** "NO FRAME". */
    static void promise18_noFrame() {
        refused(NO_FRAME, BoundariesTest::outside, x -> x.swap());
    }

    /** "UNDER": two are enough, one is not, nor one on each side of a token or of a frame's begin. */
    static void promise18_under() {
        taken(1, () -> inside(64, 1, 2), x -> x.swap());
        taken(1, BoundariesTest::full, x -> x.swap());
        refused(UNDER, () -> inside(64, 1), x -> x.swap());
        refused(UNDER, () -> inside(64), x -> x.swap());
        refused(UNDER, () -> second(0, 0), x -> x.swap());
        refused(UNDER, () -> {
            Kept x = behindToken();
            due(2, x.pop());
            due(1, x.pop());
            return x;
        }, x -> x.swap());
    }

    /** "The two last VALUES are changed for one another": those below them stay. */
    static void promise18_theTwoLast() {
        Kept x = inside(64, 1, 2);
        due(1, x.swap());
        values(x, 2, 1);
        x.push(3);
        due(1, x.swap());
        values(x, 2, 3, 1);
    }

    // ---- promises 19 and 20

    /** Five bytes of locals, three that fill up, and a value behind; the bytes are 81 82 .. 88 in base 16. */
    private static Kept locals() {
        Kept x = functions(64);
        x.function(0, 0xC1);
        x.format(0, 4, 1);
        x.format(0, 1, 1);
        due(16, x.call(0, 0, 1, 0, 100));
        due(1, x.store(0, 4, 0x81828384));
        due(1, x.store(4, 4, 0x85868788));
        x.push(0x11223344);
        return x;
    }

    /** "BAD: WIDTH". */
    static void promise19_badWidth() {
        taken(1, BoundariesTest::locals, x -> x.load(0, 1), x -> x.load(0, 2), x -> x.load(0, 4));
        refused(BAD, BoundariesTest::locals, x -> x.load(0, 0), x -> x.load(0, 3), x -> x.load(0, 5), x -> x.load(0, 8), x -> x.load(0, -1),
            x -> x.load(0, MIN), x -> x.load(0, MAX));
    }

    /** "NO FRAME". */
    static void promise19_noFrame() {
        refused(NO_FRAME, BoundariesTest::outside, x -> x.load(0, 1), x -> x.load(0, 4));
    }

    /** "WAY: place not 0 to LENGTH less WIDTH": of each WIDTH the last place; the bytes that fill up belong to it. */
    static void promise19_way() {
        taken(1, BoundariesTest::locals, x -> x.load(0, 1), x -> x.load(7, 1), x -> x.load(6, 2), x -> x.load(4, 4));
        refused(WAY, BoundariesTest::locals, x -> x.load(8, 1), x -> x.load(7, 2), x -> x.load(5, 4), x -> x.load(-1, 1), x -> x.load(-1, 2),
            x -> x.load(-1, 4), x -> x.load(-4, 4), x -> x.load(MAX, 1), x -> x.load(MAX, 4), x -> x.load(MIN, 1), x -> x.load(MIN, 4));
        refused(WAY, () -> alone(0, 0), x -> x.load(0, 1), x -> x.load(0, 4), x -> x.load(-1, 1));
        refused(WAY, () -> second(0, 0), x -> x.load(0, 1));
    }

    /** "BAD: WIDTH; NO FRAME; WAY": of two that are there the one told first. */
    static void promise19_order() {
        refused(BAD, BoundariesTest::outside, x -> x.load(0, 3), x -> x.load(-1, 0));
        refused(BAD, BoundariesTest::locals, x -> x.load(-1, 3), x -> x.load(9, 0));
        refused(NO_FRAME, BoundariesTest::outside, x -> x.load(-1, 4));
    }

    /** "as a number without sign (of 4: an int)". */
    static void promise19_withoutSign() {
        Kept x = locals();
        loaded(x, 0, 1, 0x81);
        loaded(x, 7, 1, 0x88);
        loaded(x, 0, 2, 0x8182);
        loaded(x, 3, 2, 0x8485);
        loaded(x, 6, 2, 0x8788);
        loaded(x, 0, 4, 0x81828384);
        loaded(x, 1, 4, 0x82838485);
        loaded(x, 4, 4, 0x85868788);
        due(1, x.store(0, 4, -1));
        loaded(x, 0, 1, 255);
        loaded(x, 0, 2, 65535);
        loaded(x, 0, 4, -1);
    }

    /** "BAD: WIDTH", likewise. */
    static void promise20_badWidth() {
        taken(1, BoundariesTest::locals, x -> x.store(0, 1, 5), x -> x.store(0, 2, 5), x -> x.store(0, 4, 5));
        refused(BAD, BoundariesTest::locals, x -> x.store(0, 0, 5), x -> x.store(0, 3, 5), x -> x.store(0, 5, 5), x -> x.store(0, 8, 5),
            x -> x.store(0, -1, 5), x -> x.store(0, MIN, 5), x -> x.store(0, MAX, 5));
    }

    /** "NO FRAME", likewise. */
    static void promise20_noFrame() {
        refused(NO_FRAME, BoundariesTest::outside, x -> x.store(0, 1, 5), x -> x.store(0, 4, 5));
    }

    /** "WAY", likewise: what stands behind the frame's LOCALS is never touched, nor what stands before them. */
    static void promise20_way() {
        taken(1, BoundariesTest::locals, x -> x.store(0, 1, 5), x -> x.store(7, 1, 5), x -> x.store(6, 2, 5), x -> x.store(4, 4, 5));
        refused(WAY, BoundariesTest::locals, x -> x.store(8, 1, 5), x -> x.store(7, 2, 5), x -> x.store(5, 4, 5), x -> x.store(-1, 1, 5),
            x -> x.store(-1, 2, 5), x -> x.store(-1, 4, 5), x -> x.store(-4, 4, 5), x -> x.store(MAX, 1, 5), x -> x.store(MAX, 4, 5),
            x -> x.store(MIN, 1, 5), x -> x.store(MIN, 4, 5));
        refused(WAY, () -> alone(0, 0), x -> x.store(0, 1, 5), x -> x.store(0, 4, 5));
        refused(WAY, () -> second(0, 0), x -> x.store(0, 1, 5));
    }

    /** "BAD: WIDTH; NO FRAME; WAY", likewise: of two that are there the one told first. */
    static void promise20_order() {
        refused(BAD, BoundariesTest::outside, x -> x.store(0, 3, 5));
        refused(BAD, BoundariesTest::locals, x -> x.store(-1, 3, 5), x -> x.store(9, 0, 5));
        refused(NO_FRAME, BoundariesTest::outside, x -> x.store(-1, 4, 5));
    }

    /** "the lowest bytes of v": no byte beside them changes. */
    static void promise20_lowestBytes() {
        Kept x = locals();
        due(1, x.store(7, 1, 0x100));
        due(1, x.store(0, 1, -1));
        due(1, x.store(2, 2, 0x12345678));
        due(1, x.store(5, 2, -2));
        int[] bytes = {0xFF, 0x82, 0x56, 0x78, 0x85, 0xFF, 0xFE, 0x00, 0x11, 0x22, 0x33, 0x44};
        for (int i = 0; i < bytes.length; i++) due(bytes[i], x.byteAt(32 + i));
        due(POPPED_BEFORE, x.popped());
    }

    // ---- promise 21

    /** "NONE: it is not in use": the byte before SP is, that at SP is not, nor one before 0. */
    static void promise21_none() {
        refused(NONE, BoundariesTest::outside, x -> x.byteAt(0));
        taken(5, () -> inside(64, 5), x -> x.byteAt(47));
        taken(0, () -> inside(64, 5), x -> x.byteAt(0));
        refused(NONE, () -> inside(64, 5), x -> x.byteAt(48), x -> x.byteAt(-1), x -> x.byteAt(63), x -> x.byteAt(64), x -> x.byteAt(MIN),
            x -> x.byteAt(MAX));
        taken(5, BoundariesTest::full, x -> x.byteAt(63));
        refused(NONE, BoundariesTest::full, x -> x.byteAt(64));
        Kept x = inside(64, -1);
        due(255, x.byteAt(47));
        due(0, x.pop());
        due(NONE, x.byteAt(44));
        due(0, x.byteAt(43));
    }

    /** "(0 .. 255)": without a sign. */
    static void promise21_0To255() {
        Kept x = inside(64, 0x007F80FF);
        due(0, x.byteAt(44));
        due(127, x.byteAt(45));
        due(128, x.byteAt(46));
        due(255, x.byteAt(47));
    }

    // ---- promise 22

    /** "0: there is none": CELLS are 0 .. 15. */
    static void promise22_none() {
        Scene all = () -> {
            Kept x = inside(64);
            for (int i = 0; i < 16; i++) {
                x.push(50 + i);
                due(1, x.call(SUM, 1, 1, i, 0));
            }
            return x;
        };
        taken(50, all, x -> x.cell(0));
        taken(65, all, x -> x.cell(15));
        refused(0, all, x -> x.cell(-1), x -> x.cell(16), x -> x.cell(MIN), x -> x.cell(MAX), x -> x.cell(-16), x -> x.cell(32));
    }

    // ---- promise 23

    /** "What = 0 .. 7": -1 and 8 are BAD. */
    static void promise23_bad() {
        taken(44, () -> inside(64), x -> x.count(0));
        taken(1, () -> inside(64), x -> x.count(7));
        refused(BAD, () -> inside(64), x -> x.count(-1), x -> x.count(8), x -> x.count(MIN), x -> x.count(MAX));
    }

    /** "VALUES of THE FRAME at hand (NONE)": without a frame NONE, in one without VALUES 0. */
    static void promise23_valuesNone() {
        taken(NONE, BoundariesTest::outside, x -> x.count(2));
        taken(0, () -> inside(64), x -> x.count(2));
        Kept x = alone(0, 0);
        due(1, x.count(2));
        due(NONE, x.leave(0));
        due(NONE, x.count(2));
    }

    /** "LIVE TOKENS", "the latest of them (NONE)": of all frames, also when the one at hand has none. */
    static void promise23_tokensNone() {
        taken(NONE, BoundariesTest::outside, x -> x.count(6));
        taken(NONE, () -> inside(64), x -> x.count(6));
        taken(0, () -> inside(64), x -> x.count(5));
        Kept x = behindToken();
        due(1, x.count(5));
        due(68, x.count(6));
        due(96, x.call(BARE, 0, 0, 0, 0));
        due(1, x.count(5));
        due(68, x.count(6));
        due(16, x.thrown(68, 0));
        due(0, x.count(5));
        due(NONE, x.count(6));
    }

    /** "PC (0 at first)": a RETURN and a THROW change it, nothing else does. */
    static void promise23_pc() {
        Kept x = second(0, 0);
        due(PC_BEFORE, x.count(3));
        due(100, x.caught(0, 0, 77));
        due(PC_BEFORE, x.count(3));
        due(1, x.call(SUM, 0, 0, 0, 78));
        due(PC_BEFORE, x.count(3));
        due(68, x.thrown(100, 0));
        due(77, x.count(3));
        due(68, x.tail(BARE, 0));
        due(77, x.count(3));
        due(16, x.leave(0));
        due(62, x.count(3));
        due(NONE, x.leave(0));
        due(100, x.count(3));
        due(16, x.call(BARE, 0, 0, MIN, MIN));
        due(100, x.count(3));
        due(NONE, x.leave(0));
        due(MIN, x.count(3));
    }

    /** "FRAMES": from none to as many as the stack has places for. */
    static void promise23_frames() {
        Kept x = functions(1024);
        int frames = 0;
        due(0, x.count(7));
        while (frames < 100 && x.call(BARE, 0, 0, 0, 0) > 0) {
            frames++;
            due(frames, x.count(7));
        }
        latest = "how many frames there were";
        due(1024 / 28, frames);
        due(28 * frames, x.count(0));
        for (int left = frames - 1; left >= 0; left--) {
            due(left > 0 ? 16 + 28 * (left - 1) : NONE, x.leave(0));
            due(left, x.count(7));
        }
        due(NO_FRAME, x.leave(0));
    }

    // ---- all of them

    private static int place(Method sentence) {
        String digits = sentence.getName().replaceAll("_.*", "").replaceAll("\\D", "");
        return digits.isEmpty() ? 0 : Integer.parseInt(digits);
    }

    private static void run(Method method) throws IllegalAccessException {
        sentence = method.getName();
        latest = "no call";
        try {
            method.invoke(null);
        } catch (InvocationTargetException e) {
            fault("behind " + latest + " it threw " + e.getCause());
        }
    }

    public static void main(String[] args) throws IllegalAccessException {
        List<Method> sentences = new ArrayList<>();
        for (Method method : BoundariesTest.class.getDeclaredMethods()) {
            if (!Modifier.isPrivate(method.getModifiers()) && method.getName().contains("_")) sentences.add(method);
        }
        sentences.sort(Comparator.comparingInt(BoundariesTest::place).thenComparing(Method::getName));
        for (Method method : sentences) run(method);
        System.out.println(wrong == 0 ? sentences.size() + " sentences hold" : wrong + " answers are not as due");
        if (wrong != 0) System.exit(1);
    }
}
