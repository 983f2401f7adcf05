/** One method for each promise of ../shared/DOC.md: ordinary inputs, the edges that it names, wrong inputs. */
public final class PromisesTest {
    private static final int BAD = -1;
    private static final int NONE = -1;
    private static final int HEAD = -11;
    private static final int UNDER = -12;
    private static final int WAY = -13;
    private static final int TOKEN = -14;
    private static final int FULL = -15;
    private static final int NO_FRAME = -16;

    private static final int PUSHED = 0xC0;
    private static final int IN_LOCALS = 0xC1;
    private static final int MIN = Integer.MIN_VALUE;
    private static final int MAX = Integer.MAX_VALUE;

    private static int wrong = 0;
    private static String part = "";

    private static void due(String call, long got, long want) {
        if (got != want) {
            wrong++;
            System.out.println(part + ": " + call + " answered " + got + ", due is " + want);
        }
    }

    /** Of a call that must change nothing. */
    private static void unchanged(GlulxFrames x, String before, String call) {
        if (!seen(x).equals(before)) {
            wrong++;
            System.out.println(part + ": " + call + " changed\n  " + before + "\n  to\n  " + seen(x));
        }
    }

    private static String seen(GlulxFrames x) {
        StringBuilder all = new StringBuilder();
        for (int what = 0; what <= 7; what++) all.append(x.count(what)).append(' ');
        all.append("popped ").append(x.popped()).append(" cells");
        for (int i = 0; i < 16; i++) all.append(' ').append(x.cell(i));
        all.append(" bytes");
        for (int i = 0; i < x.count(0); i++) all.append(' ').append(x.byteAt(i));
        return all.toString();
    }

    private static int number(GlulxFrames x, int at) {
        return x.byteAt(at) << 24 | x.byteAt(at + 1) << 16 | x.byteAt(at + 2) << 8 | x.byteAt(at + 3);
    }

    private static void numbers(GlulxFrames x, int at, int... wanted) {
        for (int i = 0; i < wanted.length; i++) due("the number at byte " + (at + 4 * i), number(x, at + 4 * i), wanted[i]);
    }

    private static void bytes(GlulxFrames x, int at, int... wanted) {
        for (int i = 0; i < wanted.length; i++) due("byteAt(" + (at + i) + ")", x.byteAt(at + i), wanted[i]);
    }

    /** From the first pushed to the last one. */
    private static void values(GlulxFrames x, int... wanted) {
        due("count(2)", x.count(2), wanted.length);
        for (int i = 0; i < wanted.length; i++) {
            due("peek(" + i + ")", x.peek(i), 1);
            due("popped() of value " + i, x.popped(), wanted[wanted.length - 1 - i]);
        }
    }

    private static void loaded(GlulxFrames x, int place, int width, int wanted) {
        due("load(" + place + ", " + width + ")", x.load(place, width), 1);
        due("popped() of the local at " + place, x.popped(), wanted);
    }

    private static void pushAll(GlulxFrames x, int... values) {
        for (int v : values) {
            int before = x.count(2);
            due("push(" + v + ")", x.push(v), before + 1);
        }
    }

    private static GlulxFrames with(int size, int f, int head, int... pairs) {
        GlulxFrames x = new GlulxFrames(size);
        add(x, f, head, pairs);
        return x;
    }

    private static void add(GlulxFrames x, int f, int head, int... pairs) {
        due("function", x.function(f, head), 1);
        for (int i = 0; i + 1 < pairs.length; i += 2) due("format", x.format(f, pairs[i], pairs[i + 1]), i / 2 + 1);
    }

    /** Function 0 with four locals of four bytes at 0, 4, 8, 12: its frame is at 16, its locals at 28, its values at 44. */
    private static GlulxFrames inFrame(int size) {
        GlulxFrames x = with(size, 0, IN_LOCALS, 4, 4);
        due("call", x.call(0, 0, 1, 0, 100), 16);
        due("count(0)", x.count(0), 44);
        return x;
    }

    private static GlulxFrames fullFrame() {
        GlulxFrames x = inFrame(64);
        pushAll(x, 1, 2, 3, 4, 5);
        due("count(0)", x.count(0), 64);
        return x;
    }

    private static void promise1() {
        int[][] sizes = {{64, 64}, {63, 64}, {0, 64}, {-5, 64}, {MIN, 64}, {65, 64}, {67, 64}, {68, 68}, {71, 68},
            {400, 400}, {403, 400}, {1023, 1020}, {1024, 1024}, {1025, 1024}, {MAX, 1024}};
        for (int[] size : sizes) due("new(" + size[0] + ").count(4)", new GlulxFrames(size[0]).count(4), size[1]);
        GlulxFrames x = new GlulxFrames(64);
        int[] counts = {0, NONE, NONE, 0, 64, 0, NONE, 0};
        for (int what = 0; what < counts.length; what++) due("count(" + what + ")", x.count(what), counts[what]);
        due("popped()", x.popped(), 0);
        for (int i = 0; i < 16; i++) due("cell(" + i + ")", x.cell(i), 0);
        for (int f = 0; f < 12; f++) {
            due("told(" + f + ", 0)", x.told(f, 0), 0);
            due("told(" + f + ", 1)", x.told(f, 1), 0);
            due("accelerate(" + f + ", 0)", x.accelerate(f, 0), 0);
        }
        due("the constant NONE", GlulxFrames.NONE, -1);
        due("the constant BAD", GlulxFrames.BAD, -1);
    }

    private static void promise2() {
        GlulxFrames x = new GlulxFrames(128);
        due("function(0, 0)", x.function(0, 0), 1);
        due("function(11, 255)", x.function(11, 255), 1);
        due("told(11, 0)", x.told(11, 0), 255);
        due("function(12, 5)", x.function(12, 5), BAD);
        due("function(-1, 5)", x.function(-1, 5), BAD);
        due("function(11, 256)", x.function(11, 256), BAD);
        due("function(11, -1)", x.function(11, -1), BAD);
        due("told(11, 0)", x.told(11, 0), 255);
        due("format", x.format(11, 2, 9), 1);
        due("function(11, 256)", x.function(11, 256), BAD);
        due("pairs behind BAD", x.told(11, 1), 1);
        due("accelerate", x.accelerate(11, 2), 0);
        due("function(11, 193)", x.function(11, 193), 1);
        due("told(11, 1)", x.told(11, 1), 0);
        due("told(11, 2)", x.told(11, 2), 0);
        due("what stood for it still does", x.accelerate(11, 0), 2);
        due("format", x.format(11, 4, 1), 1);
        due("told(11, 2)", x.told(11, 2), 1);
    }

    private static void promise2Anew() {
        GlulxFrames x = with(128, 1, PUSHED, 1, 5, 4, 3, 2, 7);
        add(x, 1, IN_LOCALS, 2, 2);
        due("local(1, 1)", x.local(1, 1), 2);
        due("local(1, 2), of pairs that are no more", x.local(1, 2), BAD);
        due("told(1, 3)", x.told(1, 3), 16);
        due("call", x.call(1, 0, 0, 0, 0), 16);
        bytes(x, 16, 0, 0, 0, 16, 0, 0, 0, 12, 2, 2, 0, 0, 0, 0, 0, 0);
        pushAll(x, 1, 2, 3, 4);
        due("call", x.call(1, 4, 0, 0, 0), 48);
        bytes(x, 48, 0, 0, 0, 16, 0, 0, 0, 12, 2, 2, 0, 0, 0, 4, 0, 3);
        values(x);
        due("without pairs", x.function(1, IN_LOCALS), 1);
        due("local(1, 0), of pairs that are no more", x.local(1, 0), BAD);
        due("call", x.call(1, 0, 0, 0, 0), 80);
        bytes(x, 80, 0, 0, 0, 12, 0, 0, 0, 12, 0, 0, 0, 0, NONE);
    }

    private static void promise3() {
        GlulxFrames x = new GlulxFrames(128);
        due("format(0, 1, 1)", x.format(0, 1, 1), 1);
        due("format(0, 2, 255)", x.format(0, 2, 255), 2);
        int[][] bad = {{12, 1, 1}, {-1, 1, 1}, {0, 0, 1}, {0, 3, 1}, {0, 5, 1}, {0, 8, 1}, {0, -1, 1}, {0, -4, 1},
            {0, 4, 0}, {0, 4, -1}, {0, 4, 256}, {MAX, 4, 1}, {MIN, 4, 1}, {0, MAX, 1}, {0, 4, MAX}};
        for (int[] b : bad) due("format(" + b[0] + ", " + b[1] + ", " + b[2] + ")", x.format(b[0], b[1], b[2]), BAD);
        due("pairs", x.told(0, 1), 2);
        for (int pairs = 3; pairs <= 6; pairs++) due("format(0, 4, 2)", x.format(0, 4, 2), pairs);
        due("a seventh", x.format(0, 4, 2), BAD);
        due("pairs", x.told(0, 1), 6);
        due("locals", x.told(0, 2), 264);
        due("pairs of another", x.told(1, 1), 0);
    }

    private static void promise4() {
        GlulxFrames x = new GlulxFrames(128);
        due("accelerate(0, 3)", x.accelerate(0, 3), 0);
        due("accelerate(0, 4)", x.accelerate(0, 4), BAD);
        due("accelerate(0, -1)", x.accelerate(0, -1), BAD);
        due("accelerate(12, 1)", x.accelerate(12, 1), BAD);
        due("accelerate(-1, 1)", x.accelerate(-1, 1), BAD);
        due("accelerate(0, 1)", x.accelerate(0, 1), 3);
        due("accelerate(0, 2)", x.accelerate(0, 2), 1);
        due("accelerate(0, 0)", x.accelerate(0, 0), 2);
        due("accelerate(0, 0)", x.accelerate(0, 0), 0);
        due("call of one that is not", x.call(0, 0, 0, 0, 0), HEAD);
        due("accelerate(11, 1)", x.accelerate(11, 1), 0);
        due("call of one that is", x.call(11, 0, 0, 0, 0), 1);
    }

    private static void promise5() {
        GlulxFrames x = new GlulxFrames(128);
        int[][] told = {{0, 0, 0, 12, 12}, {77, 1, 1, 16, 12}, {77, 2, 3, 24, 16}, {77, 3, 4, 28, 16}, {77, 4, 5, 36, 20},
            {77, 5, 260, 288, 20}, {77, 6, 261, 296, 24}};
        int[][] pairs = {{}, {1, 1}, {2, 2}, {4, 1}, {1, 1}, {1, 255}, {4, 1}};
        for (int p = 0; p < told.length; p++) {
            if (p == 1) due("function", x.function(3, 77), 1);
            if (p > 0) due("format", x.format(3, pairs[p][0], pairs[p][1]), p);
            for (int what = 0; what <= 4; what++) {
                due("told(3, " + what + ") with " + p + " pairs", x.told(3, what), told[p][what]);
            }
        }
        due("told(3, 5)", x.told(3, 5), BAD);
        due("told(3, -1)", x.told(3, -1), BAD);
        due("told(12, 0)", x.told(12, 0), BAD);
        due("told(-1, 3)", x.told(-1, 3), BAD);
        add(x, 4, 5, 4, 255, 4, 255, 4, 255, 4, 255, 4, 255, 4, 255);
        due("locals at the most", x.told(4, 2), 1530);
        due("LENGTH at the most", x.told(4, 3), 24 + 6120);
    }

    private static void promise6() {
        GlulxFrames x = with(128, 2, 5, 1, 3, 4, 2, 1, 1, 2, 2, 2, 1, 1, 1);
        int[] places = {0, 1, 2, 4, 8, 12, 14, 16, 18, 20};
        for (int k = 0; k < places.length; k++) due("local(2, " + k + ")", x.local(2, k), places[k]);
        due("local(2, 10)", x.local(2, 10), BAD);
        due("local(2, -1)", x.local(2, -1), BAD);
        due("local(2, MAX)", x.local(2, MAX), BAD);
        due("local(2, MIN)", x.local(2, MIN), BAD);
        due("local(12, 0)", x.local(12, 0), BAD);
        due("local(-1, 0)", x.local(-1, 0), BAD);
        due("of one without pairs", x.local(3, 0), BAD);
    }

    private static void promise7Bytes() {
        GlulxFrames x = with(256, 1, IN_LOCALS, 1, 1, 2, 2, 4, 1);
        due("call", x.call(1, 0, 1, 7, 0x01020304), 16);
        numbers(x, 0, 1, 7, 0x01020304, -1);
        bytes(x, 16, 0, 0, 0, 28, 0, 0, 0, 16, 1, 1, 2, 2, 4, 1, 0, 0);
        numbers(x, 32, 0, 0, 0);
        due("count(0)", x.count(0), 44);
        due("PC stays", x.count(3), 0);
        pushAll(x, 99, 0x11223344, 0x55667788, 0xFFEEDDCC, 0x12345678);
        due("call", x.call(1, 4, 2, -9, 5), 64);
        values(x);
        bytes(x, 44, 0, 0, 0, 99);
        numbers(x, 48, 2, -9, 5, 16);
        bytes(x, 64 + 16, 0x78, 0, 0xDD, 0xCC, 0x77, 0x88, 0, 0, 0x11, 0x22, 0x33, 0x44);
        due("count(0)", x.count(0), 92);
        due("FP", x.count(1), 64);
        due("frames", x.count(7), 2);
        due("PC stays", x.count(3), 0);
        pushAll(x, 7, 8, 9);
        due("more locals than arguments", x.call(1, 2, 0, 0, 0), 112);
        bytes(x, 112 + 16, 9, 0, 0, 8, 0, 0, 0, 0, 0, 0, 0, 0);
        numbers(x, 92, 7, 0, 0, 0, 64);
    }

    private static void promise7Arguments() {
        GlulxFrames x = with(512, 1, IN_LOCALS, 1, 1, 4, 1);
        add(x, 2, PUSHED, 2, 3);
        due("call", x.call(2, 0, 0, 0, 0), 16);
        bytes(x, 16, 0, 0, 0, 20, 0, 0, 0, 12, 2, 3, 0, 0);
        values(x, 0);
        pushAll(x, 10, 20, 30, 40);
        due("more arguments than locals", x.call(1, 3, 0, 0, 0), 60);
        numbers(x, 40, 0x0A);
        bytes(x, 60 + 16, 40, 0, 0, 0, 0, 0, 0, 30);
        values(x);
        pushAll(x, 1, 2, 3);
        due("call, arguments pushed", x.call(2, 2, 0, 0, 0), 104);
        values(x, 2, 3, 2);
        numbers(x, 104 + 12, 0, 0, 2, 3, 2);
        due("leave", x.leave(0), 60);
        pushAll(x, -1, -1, -1, -1, -1, -1, -1, -1, -1, -1, -1);
        for (int i = 0; i < 11; i++) x.pop();
        due("stale bytes are not seen in locals", x.call(2, 0, 0, 0, 0), 104);
        numbers(x, 104 + 12, 0, 0, 0);
        add(x, 2, IN_LOCALS, 4, 60);
        due("the format of a frame is that of its call", number(x, 104), 20);
        loaded(x, 0, 4, 0);
        due("load(8, 1)", x.load(8, 1), WAY);
    }

    private static void promise7Faults() {
        GlulxFrames x = new GlulxFrames(64);
        add(x, 1, IN_LOCALS);
        add(x, 2, PUSHED);
        due("HEAD", x.call(0, 0, 0, 0, 0), HEAD);
        due("NO FRAME before HEAD", x.call(0, 1, 0, 0, 0), NO_FRAME);
        int[][] bad = {{12, 0, 0}, {-1, 0, 0}, {1, -1, 0}, {1, MIN, 0}, {1, 0, 4}, {1, 0, -1}, {0, 5, 4}, {MAX, 0, 0}, {1, 0, MAX}};
        for (int[] b : bad) due("call(" + b[0] + ", " + b[1] + ", " + b[2] + ")", x.call(b[0], b[1], b[2], 0, 0), BAD);
        due("the way is not looked into", x.call(1, 0, 3, 0, 0), 16);
        due("count(0)", x.count(0), 28);
        pushAll(x, 1, 2, 3);
        String before = seen(x);
        due("UNDER before HEAD", x.call(0, 4, 0, 0, 0), UNDER);
        due("UNDER before FULL", x.call(1, MAX, 0, 0, 0), UNDER);
        due("HEAD before FULL", x.call(0, 0, 0, 0, 0), HEAD);
        due("FULL", x.call(1, 0, 0, 0, 0), FULL);
        due("FULL by n itself", x.call(2, 3, 0, 0, 0), FULL);
        due("BAD", x.call(1, -1, 0, 0, 0), BAD);
        due("HEAD 0xBF", x.function(3, 0xBF) == 1 ? x.call(3, 0, 0, 0, 0) : 0, HEAD);
        due("HEAD 0xC2", x.function(3, 0xC2) == 1 ? x.call(3, 0, 0, 0, 0) : 0, HEAD);
        unchanged(x, before, "a fault");
        due("just as long as the stack", x.call(1, 1, 0, 0, 0), 52);
        due("count(0)", x.count(0), 64);
        GlulxFrames y = with(64, 1, IN_LOCALS, 4, 9);
        due("a frame as long as the stack allows", y.call(1, 0, 0, 0, 0), 16);
        due("count(0)", y.count(0), 64);
        GlulxFrames z = with(64, 1, PUSHED, 4, 9);
        due("its n has no place", z.call(1, 0, 0, 0, 0), FULL);
        due("count(0)", z.count(0), 0);
    }

    private static void promise7Accelerated() {
        GlulxFrames x = inFrame(128);
        due("accelerate", x.accelerate(5, 1), 0);
        due("accelerate", x.accelerate(6, 2), 0);
        due("accelerate", x.accelerate(7, 3), 0);
        pushAll(x, 1, 2, 3, 10);
        due("sum", x.call(5, 3, 1, 0, 55), 1);
        due("cell(0)", x.cell(0), 15);
        values(x, 1);
        due("PC stays", x.count(3), 0);
        pushAll(x, 4, 5, 6);
        due("difference", x.call(6, 3, 2, 4, 0), 1);
        loaded(x, 4, 4, -3);
        pushAll(x, 42);
        due("of one", x.call(6, 1, 1, 15, 0), 1);
        due("cell(15)", x.cell(15), 42);
        pushAll(x, -1, 0, 1, MAX, MIN);
        due("above 0", x.call(7, 5, 3, 0, 0), 1);
        values(x, 1, 2);
        pushAll(x, MAX, 1);
        due("a sum goes round", x.call(5, 2, 0, 0, 0), 1);
        values(x, 1, 2);
        for (int f = 5; f <= 7; f++) due("of none", x.call(f, 0, 3, 0, 0), 1);
        values(x, 1, 2, 0, 0, 0);
        String before = seen(x);
        due("UNDER before WAY", x.call(5, 6, 1, 16, 0), UNDER);
        due("cell 16", x.call(5, 1, 1, 16, 0), WAY);
        due("cell -1", x.call(5, 1, 1, -1, 0), WAY);
        due("local 13", x.call(5, 1, 2, 13, 0), WAY);
        due("local -1", x.call(5, 1, 2, -1, 0), WAY);
        due("way 4", x.call(5, 1, 4, 0, 0), BAD);
        due("n -1", x.call(5, -1, 0, 0, 0), BAD);
        unchanged(x, before, "a fault");
        due("the last local", x.call(5, 1, 2, 12, 0), 1);
        GlulxFrames full = fullFrame();
        due("accelerate", full.accelerate(5, 1), 0);
        before = seen(full);
        due("FULL", full.call(5, 0, 3, 0, 0), FULL);
        due("WAY", full.call(5, 0, 1, 16, 0), WAY);
        unchanged(full, before, "FULL");
        due("in the place of an argument", full.call(5, 1, 3, 0, 0), 1);
        due("count(0)", full.count(0), 64);
        GlulxFrames none = new GlulxFrames(64);
        due("accelerate", none.accelerate(0, 3), 0);
        due("way 0 without a frame", none.call(0, 0, 0, -7, 0), 1);
        due("way 1 without a frame", none.call(0, 0, 1, 0, 0), 1);
        due("way 2 without a frame", none.call(0, 0, 2, 0, 0), WAY);
        due("way 3 without a frame", none.call(0, 0, 3, 0, 0), WAY);
        due("arguments without a frame", none.call(0, 1, 2, 0, 0), NO_FRAME);
    }

    private static void promise8() {
        GlulxFrames x = inFrame(256);
        due("without a frame", new GlulxFrames(64).leave(1), NO_FRAME);
        add(x, 1, IN_LOCALS);
        pushAll(x, 5);
        due("call", x.call(1, 0, 2, 6, 21), 64);
        due("leave, to a local across two", x.leave(0x0A0B0C0D), 16);
        loaded(x, 4, 4, 0x00000A0B);
        loaded(x, 8, 4, 0x0C0D0000);
        due("PC", x.count(3), 21);
        values(x, 5);
        due("call", x.call(1, 0, 3, 99, 22), 64);
        pushAll(x, 1, 2, 3);
        due("leave, pushed", x.leave(6), 16);
        values(x, 5, 6);
        due("call", x.call(1, 0, 0, -1, 23), 68);
        due("leave, nowhere", x.leave(7), 16);
        due("PC", x.count(3), 23);
        values(x, 5, 6);
        int[][] none = {{1, 16}, {1, -1}, {2, 13}, {2, -1}, {2, MAX}, {2, MIN}, {1, MAX}};
        for (int[] way : none) {
            due("call", x.call(1, 0, way[0], way[1], 24), 68);
            String before = seen(x);
            due("leave by " + way[0] + " " + way[1], x.leave(9), WAY);
            unchanged(x, before, "WAY");
            due("a second object", x.tail(0, 0), 68);
            x = inFrame(256);
            add(x, 1, IN_LOCALS);
            pushAll(x, 5, 6);
        }
        due("call", x.call(1, 0, 2, 12, 25), 68);
        due("leave, to the last local", x.leave(-8), 16);
        loaded(x, 12, 4, -8);
        due("leave, the last frame", x.leave(77), NONE);
        due("cell(0)", x.cell(0), 77);
        due("PC", x.count(3), 100);
        due("count(0)", x.count(0), 0);
        for (int way = 2; way <= 3; way++) {
            GlulxFrames y = with(64, 0, IN_LOCALS);
            due("call", y.call(0, 0, way, 0, 3), 16);
            String before = seen(y);
            due("way " + way + " without a frame", y.leave(1), WAY);
            unchanged(y, before, "WAY");
        }
    }

    private static void promise9() {
        GlulxFrames x = inFrame(128);
        due("without a frame", new GlulxFrames(64).caught(0, 0, 0), NO_FRAME);
        due("BAD before NO FRAME", new GlulxFrames(64).caught(4, 0, 0), BAD);
        due("NO FRAME before WAY", new GlulxFrames(64).caught(1, 16, 0), NO_FRAME);
        pushAll(x, 8);
        due("to a local", x.caught(2, 4, 31), 64);
        loaded(x, 4, 4, 64);
        numbers(x, 48, 2, 4, 31, 16);
        values(x);
        due("a value below it", x.pop(), UNDER);
        due("a value below it", x.peek(0), UNDER);
        due("live", x.count(5), 1);
        due("the latest", x.count(6), 64);
        due("PC stays", x.count(3), 0);
        due("pushed", x.caught(3, -1, 32), 80);
        values(x, 80);
        due("count(0)", x.count(0), 84);
        due("nowhere", x.caught(0, 99, 33), 100);
        due("to a cell", x.caught(1, 15, 34), 116);
        due("cell(15)", x.cell(15), 116);
        due("live", x.count(5), 4);
        String before = seen(x);
        due("FULL", x.caught(0, 0, 0), FULL);
        due("WAY before FULL", x.caught(1, 16, 0), WAY);
        due("cell -1", x.caught(1, -1, 0), WAY);
        due("local 13", x.caught(2, 13, 0), WAY);
        due("local -1", x.caught(2, -1, 0), WAY);
        due("way 4", x.caught(4, 0, 0), BAD);
        due("way -1", x.caught(-1, 0, 0), BAD);
        unchanged(x, before, "a fault");
        GlulxFrames y = inFrame(64);
        pushAll(y, 1);
        before = seen(y);
        due("the stub has a place, its token not", y.caught(3, 0, 0), FULL);
        unchanged(y, before, "FULL");
        due("the stub alone", y.caught(1, 3, 0), 64);
        due("cell(3)", y.cell(3), 64);
        due("count(0)", y.count(0), 64);
        GlulxFrames z = inFrame(64);
        due("both", z.caught(3, 0, 0), 60);
        due("count(0)", z.count(0), 64);
    }

    private static void promise10() {
        GlulxFrames x = inFrame(400);
        due("without a token", x.thrown(16, 1), TOKEN);
        pushAll(x, 8);
        due("first", x.caught(3, 0, 41), 64);
        due("second", x.caught(1, 2, 42), 84);
        due("call", x.call(0, 0, 0, 0, 43), 100);
        due("third", x.caught(2, 8, 44), 144);
        due("call", x.call(0, 0, 0, 0, 45), 160);
        pushAll(x, 1, 2, 3);
        String before = seen(x);
        int[] none = {0, -1, 16, 100, 160, 63, 65, 68, 145, 200, 1000000, MIN, MAX};
        for (int token : none) due("thrown(" + token + ")", x.thrown(token, 5), TOKEN);
        unchanged(x, before, "TOKEN");
        due("to the third", x.thrown(144, -3), 100);
        loaded(x, 8, 4, -3);
        due("PC", x.count(3), 44);
        due("count(0)", x.count(0), 128);
        due("live", x.count(5), 2);
        due("the latest", x.count(6), 84);
        due("frames", x.count(7), 2);
        due("no more live", x.thrown(144, 5), TOKEN);
        due("to the first", x.thrown(64, 6), 16);
        values(x, 8, 6);
        due("PC", x.count(3), 41);
        due("count(0)", x.count(0), 52);
        due("live", x.count(5), 0);
        due("the latest", x.count(6), NONE);
        due("frames", x.count(7), 1);
        due("a later one is not live", x.thrown(84, 5), TOKEN);
        due("the place anew", x.caught(0, 0, 46), 68);
        due("itself", x.thrown(68, 5), 16);
        due("PC", x.count(3), 46);
        values(x, 8, 6);
    }

    private static void promise10Tokens() {
        GlulxFrames x = inFrame(400);
        due("caught", x.caught(1, 1, 1), 60);
        due("call", x.call(0, 0, 0, 0, 2), 76);
        due("caught", x.caught(1, 1, 3), 120);
        pushAll(x, 4, 5);
        due("leave", x.leave(0), 16);
        due("its token goes with a frame", x.thrown(120, 1), TOKEN);
        due("live", x.count(5), 1);
        due("call", x.call(0, 0, 0, 0, 2), 76);
        due("caught", x.caught(1, 1, 3), 120);
        due("tail", x.tail(0, 0), 76);
        due("its token goes with a frame", x.thrown(120, 1), TOKEN);
        due("live", x.count(5), 1);
        due("the latest", x.count(6), 60);
        values(x);
        due("to one from another frame", x.thrown(60, 9), 16);
        due("cell(1)", x.cell(1), 9);
        due("live", x.count(5), 0);
    }

    private static void promise11() {
        GlulxFrames x = inFrame(128);
        due("without a frame", new GlulxFrames(64).tail(0, 0), NO_FRAME);
        due("BAD before NO FRAME", new GlulxFrames(64).tail(12, 0), BAD);
        due("BAD before NO FRAME", new GlulxFrames(64).tail(0, -1), BAD);
        add(x, 1, PUSHED, 4, 1);
        add(x, 2, IN_LOCALS, 4, 255);
        add(x, 3, IN_LOCALS, 2, 2);
        pushAll(x, 10, 20, 0x33334444);
        due("tail", x.tail(3, 2), 16);
        bytes(x, 16, 0, 0, 0, 16, 0, 0, 0, 12, 2, 2, 0, 0, 0x44, 0x44, 0, 20);
        due("count(0)", x.count(0), 32);
        due("frames", x.count(7), 1);
        numbers(x, 0, 1, 0, 100, -1);
        pushAll(x, 4, 5, 6);
        due("tail, pushed", x.tail(1, 3), 16);
        values(x, 4, 5, 6, 3);
        due("PC stays", x.count(3), 0);
        String before = seen(x);
        due("f 12", x.tail(12, 0), BAD);
        due("f -1", x.tail(-1, 0), BAD);
        due("n -1", x.tail(1, -1), BAD);
        due("UNDER before HEAD", x.tail(9, 5), UNDER);
        due("UNDER", x.tail(1, MAX), UNDER);
        due("HEAD", x.tail(9, 4), HEAD);
        due("FULL", x.tail(2, 0), FULL);
        unchanged(x, before, "a fault");
        due("leave by the old stub", x.leave(7), NONE);
        due("cell(0)", x.cell(0), 7);
        due("PC", x.count(3), 100);
    }

    private static void promise11Full() {
        GlulxFrames x = inFrame(64);
        add(x, 1, PUSHED);
        add(x, 2, IN_LOCALS, 4, 10);
        add(x, 3, IN_LOCALS, 4, 9);
        pushAll(x, 1, 2, 3, 4, 5);
        due("one too long", x.tail(2, 0), FULL);
        due("just as long as the stack", x.tail(3, 1), 16);
        due("count(0)", x.count(0), 64);
        loaded(x, 0, 4, 5);
        due("tail", x.tail(1, 0), 16);
        pushAll(x, 1, 2, 3, 4, 5, 6, 7);
        due("all but one", x.tail(1, 7), 16);
        due("count(0)", x.count(0), 16 + 12 + 32);
        due("all", x.tail(1, 8), 16);
        due("count(0)", x.count(0), 64);
        String before = seen(x);
        due("n has no place", x.tail(1, 9), FULL);
        unchanged(x, before, "FULL");
    }

    private static void promise11Accelerated() {
        GlulxFrames x = inFrame(128);
        add(x, 1, IN_LOCALS, 4, 1);
        due("accelerate", x.accelerate(7, 2), 0);
        due("without a frame", accelerated(64).tail(7, 0), NO_FRAME);
        pushAll(x, 2, 3);
        due("call", x.call(1, 0, 3, 0, 51), 68);
        due("caught", x.caught(1, 5, 52), 100);
        pushAll(x, 30, 50);
        due("UNDER", x.tail(7, 3), UNDER);
        due("tail", x.tail(7, 2), 16);
        values(x, 2, 3, 20);
        due("PC", x.count(3), 51);
        due("live", x.count(5), 0);
        due("call", x.call(1, 0, 1, 16, 53), 72);
        pushAll(x, 1);
        String before = seen(x);
        due("UNDER before WAY", x.tail(7, 2), UNDER);
        due("WAY", x.tail(7, 1), WAY);
        unchanged(x, before, "WAY");
        GlulxFrames y = inFrame(64);
        due("accelerate", y.accelerate(0, 1), 0);
        pushAll(y, 9, 8, 7);
        due("tail, the last frame", y.tail(0, 2), NONE);
        due("cell(0)", y.cell(0), 15);
        due("count(0)", y.count(0), 0);
        due("PC", y.count(3), 100);
    }

    private static GlulxFrames accelerated(int size) {
        GlulxFrames x = new GlulxFrames(size);
        due("accelerate", x.accelerate(7, 1), 0);
        return x;
    }

    private static void promise12() {
        due("without a frame", new GlulxFrames(64).push(1), NO_FRAME);
        GlulxFrames x = inFrame(64);
        due("push", x.push(0x80010203), 1);
        bytes(x, 44, 0x80, 1, 2, 3);
        due("push", x.push(-1), 2);
        due("push", x.push(3), 3);
        due("caught's stub leaves no place", x.caught(0, 0, 0), FULL);
        due("push", x.push(4), 4);
        due("push", x.push(5), 5);
        due("count(0)", x.count(0), 64);
        String before = seen(x);
        due("FULL", x.push(6), FULL);
        unchanged(x, before, "FULL");
        GlulxFrames y = inFrame(128);
        pushAll(y, 1, 2);
        due("caught", y.caught(0, 0, 0), 68);
        due("behind a token", y.push(6), 1);
        due("call", y.call(0, 0, 0, 0, 0), 88);
        due("in a frame above", y.push(6), 1);
    }

    private static void promise13() {
        due("without a frame", new GlulxFrames(64).pop(), NO_FRAME);
        GlulxFrames x = inFrame(128);
        due("UNDER", x.pop(), UNDER);
        due("popped()", x.popped(), 0);
        pushAll(x, 11, -22, 33);
        due("pop", x.pop(), 2);
        due("popped()", x.popped(), 33);
        due("count(0)", x.count(0), 52);
        due("pop", x.pop(), 1);
        due("popped()", x.popped(), -22);
        due("pop", x.pop(), 0);
        due("popped()", x.popped(), 11);
        String before = seen(x);
        due("UNDER", x.pop(), UNDER);
        unchanged(x, before, "UNDER");
        pushAll(x, 1);
        due("caught", x.caught(3, 0, 0), 64);
        due("pop", x.pop(), 0);
        due("popped()", x.popped(), 64);
        due("never under the token", x.pop(), UNDER);
        due("thrown", x.thrown(64, 2), 16);
        values(x, 1, 2);
    }

    private static void promise14() {
        GlulxFrames x = inFrame(128);
        due("popped()", x.popped(), 0);
        pushAll(x, 5, 6, 7);
        due("popped()", x.popped(), 0);
        due("pop", x.pop(), 2);
        due("popped()", x.popped(), 7);
        due("popped() again", x.popped(), 7);
        due("accelerate", x.accelerate(1, 1), 0);
        due("call pops for itself", x.call(1, 1, 0, 0, 0), 1);
        due("swap", x.swap(), UNDER);
        due("copy", x.copy(1), 2);
        due("roll", x.roll(2, 1), 1);
        due("store", x.store(0, 4, 1), 1);
        due("caught", x.caught(1, 0, 0), 68);
        due("thrown", x.thrown(68, 3), 16);
        due("leave", x.leave(4), NONE);
        due("popped()", x.popped(), 7);
    }

    private static void promise15() {
        due("without a frame", new GlulxFrames(64).peek(0), NO_FRAME);
        GlulxFrames x = inFrame(128);
        due("none", x.peek(0), UNDER);
        pushAll(x, 5, 6, 7);
        due("peek(2)", x.peek(2), 1);
        due("popped()", x.popped(), 5);
        due("peek(1)", x.peek(1), 1);
        due("popped()", x.popped(), 6);
        String before = seen(x);
        due("peek(3)", x.peek(3), UNDER);
        due("peek(-1)", x.peek(-1), UNDER);
        due("peek(MAX)", x.peek(MAX), UNDER);
        due("peek(MIN)", x.peek(MIN), UNDER);
        unchanged(x, before, "UNDER");
        due("count(2)", x.count(2), 3);
    }

    private static void promise16() {
        due("without a frame", new GlulxFrames(64).copy(0), NO_FRAME);
        due("BAD before NO FRAME", new GlulxFrames(64).copy(-1), BAD);
        GlulxFrames x = inFrame(84);
        due("copy(0)", x.copy(0), 0);
        pushAll(x, 1, 2, 3);
        due("copy(0)", x.copy(0), 3);
        due("copy(2)", x.copy(2), 5);
        values(x, 1, 2, 3, 2, 3);
        due("copy(5)", x.copy(5), 10);
        values(x, 1, 2, 3, 2, 3, 1, 2, 3, 2, 3);
        due("count(0)", x.count(0), 84);
        String before = seen(x);
        due("copy(0)", x.copy(0), 10);
        due("FULL", x.copy(1), FULL);
        due("UNDER before FULL", x.copy(11), UNDER);
        due("copy(MAX)", x.copy(MAX), UNDER);
        due("copy(-1)", x.copy(-1), BAD);
        due("copy(MIN)", x.copy(MIN), BAD);
        unchanged(x, before, "a fault");
    }

    private static void promise17() {
        due("without a frame", new GlulxFrames(64).roll(0, 1), NO_FRAME);
        due("BAD before NO FRAME", new GlulxFrames(64).roll(-1, 1), BAD);
        int[][] rolls = {{4, 1, 1, 5, 2, 3, 4}, {4, -1, 1, 3, 4, 5, 2}, {4, 4, 1, 2, 3, 4, 5}, {4, 0, 1, 2, 3, 4, 5},
            {4, 7, 1, 3, 4, 5, 2}, {4, -6, 1, 4, 5, 2, 3}, {5, 2, 4, 5, 1, 2, 3}, {1, 9, 1, 2, 3, 4, 5},
            {0, 3, 1, 2, 3, 4, 5}, {3, MIN, 1, 2, 5, 3, 4}, {3, MAX, 1, 2, 5, 3, 4}};
        for (int[] r : rolls) {
            GlulxFrames x = inFrame(64);
            pushAll(x, 1, 2, 3, 4, 5);
            due("roll(" + r[0] + ", " + r[1] + ")", x.roll(r[0], r[1]), 1);
            values(x, r[2], r[3], r[4], r[5], r[6]);
        }
        GlulxFrames x = inFrame(64);
        due("roll(0, 5)", x.roll(0, 5), 1);
        pushAll(x, 1, 2);
        String before = seen(x);
        due("roll(3, 0)", x.roll(3, 0), UNDER);
        due("roll(MAX, 1)", x.roll(MAX, 1), UNDER);
        due("roll(-1, 0)", x.roll(-1, 0), BAD);
        due("roll(MIN, 0)", x.roll(MIN, 0), BAD);
        unchanged(x, before, "a fault");
    }

    private static void promise18() {
        due("without a frame", new GlulxFrames(64).swap(), NO_FRAME);
        GlulxFrames x = inFrame(128);
        due("of none", x.swap(), UNDER);
        pushAll(x, 1);
        String before = seen(x);
        due("of one", x.swap(), UNDER);
        unchanged(x, before, "UNDER");
        pushAll(x, 2);
        due("swap", x.swap(), 1);
        values(x, 2, 1);
        pushAll(x, 3);
        due("swap", x.swap(), 1);
        values(x, 2, 3, 1);
        due("caught", x.caught(3, 0, 0), 72);
        due("not across a token", x.swap(), UNDER);
    }

    private static void promise19() {
        due("without a frame", new GlulxFrames(64).load(0, 4), NO_FRAME);
        due("BAD before NO FRAME", new GlulxFrames(64).load(0, 3), BAD);
        GlulxFrames x = with(64, 0, IN_LOCALS, 4, 1, 1, 3);
        due("call", x.call(0, 0, 0, 0, 0), 16);
        due("store", x.store(0, 4, 0x81828384), 1);
        due("store", x.store(4, 4, 0x91929394), 1);
        pushAll(x, -1);
        loaded(x, 0, 1, 0x81);
        loaded(x, 3, 1, 0x84);
        loaded(x, 7, 1, 0x94);
        loaded(x, 1, 2, 0x8283);
        loaded(x, 6, 2, 0x9394);
        loaded(x, 2, 4, 0x83849192);
        loaded(x, 4, 4, 0x91929394);
        String before = seen(x);
        int[][] none = {{8, 1}, {7, 2}, {5, 4}, {-1, 1}, {-1, 2}, {-4, 4}, {MAX, 4}, {MIN, 1}};
        for (int[] p : none) due("load(" + p[0] + ", " + p[1] + ")", x.load(p[0], p[1]), WAY);
        int[] bad = {0, 3, 5, 8, -1, -4, MAX, MIN};
        for (int width : bad) due("load(0, " + width + ")", x.load(0, width), BAD);
        due("BAD before WAY", x.load(-1, 3), BAD);
        unchanged(x, before, "a fault");
        GlulxFrames y = with(64, 0, IN_LOCALS);
        due("call", y.call(0, 0, 0, 0, 0), 16);
        due("there are no locals", y.load(0, 1), WAY);
        due("there are no locals", y.load(-4, 4), WAY);
    }

    private static void promise20() {
        due("without a frame", new GlulxFrames(64).store(0, 4, 0), NO_FRAME);
        due("BAD before NO FRAME", new GlulxFrames(64).store(0, 0, 0), BAD);
        GlulxFrames x = with(64, 0, IN_LOCALS, 4, 2);
        due("call", x.call(0, 0, 0, 0, 0), 16);
        pushAll(x, 7);
        due("store", x.store(0, 4, 0x01020304), 1);
        due("store", x.store(1, 1, 0xABCDEF), 1);
        due("store", x.store(3, 2, 0x12345678), 1);
        due("store", x.store(7, 1, -2), 1);
        bytes(x, 28, 1, 0xEF, 3, 0x56, 0x78, 0, 0, 0xFE, 0, 0, 0, 7);
        due("popped() stays", x.popped(), 0);
        String before = seen(x);
        int[][] none = {{8, 1}, {7, 2}, {5, 4}, {-1, 1}, {-1, 4}, {MAX, 2}, {MIN, 4}};
        for (int[] p : none) due("store(" + p[0] + ", " + p[1] + ")", x.store(p[0], p[1], -1), WAY);
        int[] bad = {0, 3, 5, -2, MAX, MIN};
        for (int width : bad) due("store(0, " + width + ")", x.store(0, width, -1), BAD);
        due("BAD before WAY", x.store(99, 3, 0), BAD);
        unchanged(x, before, "a fault");
        due("store, the last place", x.store(4, 4, -1), 1);
        numbers(x, 32, -1, 7);
        GlulxFrames y = with(128, 0, IN_LOCALS, 4, 2);
        due("call", y.call(0, 0, 0, 0, 0), 16);
        due("call", y.call(0, 0, 0, 0, 0), 52);
        due("store", y.store(0, 4, 5), 1);
        numbers(y, 28, 0, 0);
        numbers(y, 64, 5, 0);
    }

    private static void promise21() {
        GlulxFrames x = new GlulxFrames(64);
        due("byteAt(0)", x.byteAt(0), NONE);
        add(x, 0, IN_LOCALS, 4, 1);
        due("call", x.call(0, 0, 1, 0, 0xFF7F8000), 16);
        bytes(x, 8, 255, 127, 128, 0, 255, 255, 255, 255);
        due("byteAt(31)", x.byteAt(31), 0);
        int[] none = {32, -1, 63, 64, 1024, MAX, MIN};
        for (int i : none) due("byteAt(" + i + ")", x.byteAt(i), NONE);
        pushAll(x, 200);
        due("byteAt(35)", x.byteAt(35), 200);
        due("pop", x.pop(), 0);
        due("byteAt(35)", x.byteAt(35), NONE);
    }

    private static void promise22() {
        GlulxFrames x = inFrame(128);
        due("accelerate", x.accelerate(1, 1), 0);
        for (int i = 0; i < 16; i++) {
            pushAll(x, 100 + i);
            due("call", x.call(1, 1, 1, i, 0), 1);
        }
        for (int i = 0; i < 16; i++) due("cell(" + i + ")", x.cell(i), 100 + i);
        int[] none = {16, -1, MAX, MIN};
        for (int i : none) due("cell(" + i + ")", x.cell(i), 0);
    }

    private static void promise23() {
        GlulxFrames x = inFrame(301);
        int[] bad = {8, -1, MAX, MIN};
        for (int what : bad) due("count(" + what + ")", x.count(what), BAD);
        counts(x, 44, 16, 0, 0, 300, 0, NONE, 1);
        pushAll(x, 1, 2);
        due("caught", x.caught(3, 0, 61), 68);
        counts(x, 72, 16, 1, 0, 300, 1, 68, 1);
        due("call", x.call(0, 1, 0, 0, 62), 84);
        counts(x, 112, 84, 0, 0, 300, 1, 68, 2);
        due("call", x.call(0, 0, 3, 0, 63), 128);
        due("caught", x.caught(0, 0, 64), 172);
        counts(x, 172, 128, 0, 0, 300, 2, 172, 3);
        due("leave", x.leave(5), 84);
        counts(x, 116, 84, 1, 63, 300, 1, 68, 2);
        due("thrown", x.thrown(68, 5), 16);
        counts(x, 56, 16, 3, 61, 300, 0, NONE, 1);
        due("leave", x.leave(5), NONE);
        counts(x, 0, NONE, NONE, 100, 300, 0, NONE, 0);
    }

    private static void counts(GlulxFrames x, int... wanted) {
        for (int what = 0; what < wanted.length; what++) due("count(" + what + ")", x.count(what), wanted[what]);
    }

    private static void run(String name, Runnable tests) {
        part = name;
        try {
            tests.run();
        } catch (RuntimeException e) {
            wrong++;
            System.out.println(part + ": threw " + e);
        }
    }

    public static void main(String[] args) {
        run("promise 1", PromisesTest::promise1);
        run("promise 2", PromisesTest::promise2);
        run("promise 2, anew", PromisesTest::promise2Anew);
        run("promise 3", PromisesTest::promise3);
        run("promise 4", PromisesTest::promise4);
        run("promise 5", PromisesTest::promise5);
        run("promise 6", PromisesTest::promise6);
        run("promise 7, bytes", PromisesTest::promise7Bytes);
        run("promise 7, arguments", PromisesTest::promise7Arguments);
        run("promise 7, faults", PromisesTest::promise7Faults);
        run("promise 7, accelerated", PromisesTest::promise7Accelerated);
        run("promise 8", PromisesTest::promise8);
        run("promise 9", PromisesTest::promise9);
        run("promise 10", PromisesTest::promise10);
        run("promise 10, tokens", PromisesTest::promise10Tokens);
        run("promise 11", PromisesTest::promise11);
        run("promise 11, full", PromisesTest::promise11Full);
        run("promise 11, accelerated", PromisesTest::promise11Accelerated);
        run("promise 12", PromisesTest::promise12);
        run("promise 13", PromisesTest::promise13);
        run("promise 14", PromisesTest::promise14);
        run("promise 15", PromisesTest::promise15);
        run("promise 16", PromisesTest::promise16);
        run("promise 17", PromisesTest::promise17);
        run("promise 18", PromisesTest::promise18);
        run("promise 19", PromisesTest::promise19);
        run("promise 20", PromisesTest::promise20);
        run("promise 21", PromisesTest::promise21);
        run("promise 22", PromisesTest::promise22);
        run("promise 23", PromisesTest::promise23);
        System.out.println(wrong == 0 ? "all promises hold" : wrong + " answers are not as due");
        if (wrong != 0) System.exit(1);
    }
}
