import java.io.ByteArrayOutputStream;
import java.util.ArrayList;
import java.util.Arrays;
import java.util.Collections;
import java.util.List;

/**
 * Long mixed runs of calls, held against a model that keeps frames and stubs as objects, writes
 * their bytes out anew for each look, and does every act on a copy that a fault throws away.
 * The looks make more than the 512 calls that the document promises answers for: the class has
 * no such end, and a look is needed after each act.
 */
public final class ModelTest {
    private static final int RUNS = 3000;
    private static final int CALLS = 500;

    private static final class Fault extends RuntimeException {
        private static final long serialVersionUID = 1L;
        final int answer;

        Fault(int answer) {
            super(null, null, false, false);
            this.answer = answer;
        }
    }

    private static void unless(boolean holds, int answer) {
        if (!holds) throw new Fault(answer);
    }

    private static final int BAD = -1, HEAD = -11, UNDER = -12, WAY = -13, TOKEN = -14, FULL = -15, NO_FRAME = -16;

    private static final class Stub {
        final int way, address, pc;

        Stub(int way, int address, int pc) {
            this.way = way;
            this.address = address;
            this.pc = pc;
        }
    }

    /** Behind the stub of its call: header, locals, then parts; each but the first begins with a stub caught. */
    private static final class Frame {
        Stub stub;
        byte[] header, locals;
        final List<Stub> caught = new ArrayList<>();
        final List<List<Integer>> parts = new ArrayList<>();

        Frame copy() {
            Frame c = new Frame();
            c.stub = stub;
            c.header = header;
            c.locals = locals.clone();
            c.caught.addAll(caught);
            for (List<Integer> part : parts) c.parts.add(new ArrayList<>(part));
            return c;
        }

        List<Integer> values() {
            return parts.get(parts.size() - 1);
        }

        int bytes() {
            int n = 16 + header.length + locals.length + 16 * caught.size();
            for (List<Integer> part : parts) n += 4 * part.size();
            return n;
        }
    }

    private static final class Model {
        int size, pc, popped;
        int[] heads = new int[12], stands = new int[12], cells = new int[16];
        List<List<int[]>> formats = new ArrayList<>();
        List<Frame> frames = new ArrayList<>();

        Model(int size) {
            this.size = size;
            for (int f = 0; f < 12; f++) formats.add(new ArrayList<>());
        }

        Model copy() {
            Model c = new Model(size);
            c.pc = pc;
            c.popped = popped;
            c.heads = heads.clone();
            c.stands = stands.clone();
            c.cells = cells.clone();
            for (int f = 0; f < 12; f++) c.formats.get(f).addAll(formats.get(f));
            for (Frame frame : frames) c.frames.add(frame.copy());
            return c;
        }

        // -- places

        int sp() {
            int n = 0;
            for (Frame frame : frames) n += frame.bytes();
            return n;
        }

        int begin(int index) {
            int n = 16;
            for (int i = 0; i < index; i++) n += frames.get(i).bytes();
            return n;
        }

        int fp() {
            return frames.isEmpty() ? -1 : begin(frames.size() - 1);
        }

        Frame top() {
            return frames.get(frames.size() - 1);
        }

        int token(int frame, int k) {
            Frame in = frames.get(frame);
            int at = begin(frame) + in.header.length + in.locals.length;
            for (int i = 0; i <= k; i++) at += 4 * in.parts.get(i).size() + 16;
            return at;
        }

        List<Integer> tokens() {
            List<Integer> all = new ArrayList<>();
            for (int i = 0; i < frames.size(); i++) {
                for (int k = 0; k < frames.get(i).caught.size(); k++) all.add(token(i, k));
            }
            return all;
        }

        void fits() {
            unless(sp() <= size, FULL);
        }

        // -- bytes

        static void put(ByteArrayOutputStream out, int... numbers) {
            for (int number : numbers) for (int shift = 24; shift >= 0; shift -= 8) out.write(number >> shift);
        }

        byte[] image() {
            ByteArrayOutputStream out = new ByteArrayOutputStream();
            int before = -1;
            for (int i = 0; i < frames.size(); i++) {
                Frame frame = frames.get(i);
                put(out, frame.stub.way, frame.stub.address, frame.stub.pc, before);
                before = begin(i);
                out.writeBytes(frame.header);
                out.writeBytes(frame.locals);
                for (int k = 0; k < frame.parts.size(); k++) {
                    if (k > 0) {
                        Stub stub = frame.caught.get(k - 1);
                        put(out, stub.way, stub.address, stub.pc, before);
                    }
                    for (int v : frame.parts.get(k)) put(out, v);
                }
            }
            return out.toByteArray();
        }

        // -- functions

        static boolean isFunction(int f) {
            return 0 <= f && f < 12;
        }

        /** Where each local is, then where the locals end. */
        List<Integer> places(int f) {
            List<Integer> places = new ArrayList<>();
            int at = 0;
            for (int[] pair : formats.get(f)) {
                while (at % pair[0] != 0) at++;
                for (int i = 0; i < pair[1]; i++, at += pair[0]) places.add(at);
            }
            while (at % 4 != 0) at++;
            places.add(at);
            return places;
        }

        int headerLength(int f) {
            int n = 4 + 4 + 2 * formats.get(f).size() + 2;
            while (n % 4 != 0) n++;
            return n;
        }

        int localsLength(int f) {
            List<Integer> places = places(f);
            return places.get(places.size() - 1);
        }

        int function(int f, int head) {
            unless(isFunction(f) && 0 <= head && head <= 255, BAD);
            heads[f] = head;
            formats.get(f).clear();
            return 1;
        }

        int format(int f, int width, int count) {
            unless(isFunction(f) && (width == 1 || width == 2 || width == 4) && 1 <= count && count <= 255, BAD);
            unless(formats.get(f).size() < 6, BAD);
            formats.get(f).add(new int[] {width, count});
            return formats.get(f).size();
        }

        int accelerate(int f, int number) {
            unless(isFunction(f) && 0 <= number && number <= 3, BAD);
            int before = stands[f];
            stands[f] = number;
            return before;
        }

        int told(int f, int what) {
            unless(isFunction(f) && 0 <= what && what <= 4, BAD);
            int[] all = {heads[f], formats.get(f).size(), places(f).size() - 1, headerLength(f) + localsLength(f), headerLength(f)};
            return all[what];
        }

        int local(int f, int k) {
            unless(isFunction(f) && 0 <= k && k < places(f).size() - 1, BAD);
            return places(f).get(k);
        }

        // -- calls

        void go(int v, int way, int address) {
            if (way == 0) return;
            if (way == 1) {
                unless(0 <= address && address <= 15, WAY);
                cells[address] = v;
                return;
            }
            unless(!frames.isEmpty(), WAY);
            if (way == 2) {
                setLocal(address, 4, v);
            } else {
                top().values().add(v);
            }
        }

        void setLocal(int place, int width, int v) {
            byte[] locals = top().locals;
            unless(0 <= place && place <= locals.length - width, WAY);
            for (int i = 0; i < width; i++) locals[place + i] = (byte) (v >> 8 * (width - 1 - i));
        }

        List<Integer> take(int n) {
            List<Integer> arguments = new ArrayList<>();
            unless(n == 0 || !frames.isEmpty(), NO_FRAME);
            unless(n == 0 || n <= top().values().size(), UNDER);
            for (int i = 0; i < n; i++) arguments.add(top().values().remove(top().values().size() - 1));
            return arguments;
        }

        int given(int number, List<Integer> arguments) {
            int sum = 0, above = 0;
            for (int a : arguments) {
                sum += a;
                if (a > 0) above++;
            }
            if (number == 1) return sum;
            if (number == 3) return above;
            return arguments.isEmpty() ? 0 : 2 * arguments.get(0) - sum;
        }

        void enter(int f, Stub stub, List<Integer> arguments) {
            Frame frame = new Frame();
            frame.stub = stub;
            ByteArrayOutputStream header = new ByteArrayOutputStream();
            put(header, headerLength(f) + localsLength(f), headerLength(f));
            List<Integer> widths = new ArrayList<>();
            for (int[] pair : formats.get(f)) {
                header.write(pair[0]);
                header.write(pair[1]);
                for (int i = 0; i < pair[1]; i++) widths.add(pair[0]);
            }
            do header.write(0); while (header.size() < headerLength(f));
            frame.header = header.toByteArray();
            frame.locals = new byte[localsLength(f)];
            frame.parts.add(new ArrayList<>());
            frames.add(frame);
            if (heads[f] == 0xC0) {
                for (int i = arguments.size() - 1; i >= 0; i--) frame.values().add(arguments.get(i));
                frame.values().add(arguments.size());
            } else {
                List<Integer> places = places(f);
                for (int i = 0; i < arguments.size() && i < widths.size(); i++) setLocal(places.get(i), widths.get(i), arguments.get(i));
            }
            fits();
        }

        boolean hasHead(int f) {
            return heads[f] == 0xC0 || heads[f] == 0xC1;
        }

        int call(int f, int n, int way, int address, int pc) {
            unless(isFunction(f) && n >= 0 && 0 <= way && way <= 3, BAD);
            List<Integer> arguments = take(n);
            if (stands[f] != 0) {
                go(given(stands[f], arguments), way, address);
                fits();
                return 1;
            }
            unless(hasHead(f), HEAD);
            enter(f, new Stub(way, address, pc), arguments);
            return fp();
        }

        int tail(int f, int n) {
            unless(isFunction(f) && n >= 0, BAD);
            unless(!frames.isEmpty(), NO_FRAME);
            List<Integer> arguments = take(n);
            if (stands[f] != 0) return leave(given(stands[f], arguments));
            unless(hasHead(f), HEAD);
            Frame gone = frames.remove(frames.size() - 1);
            enter(f, gone.stub, arguments);
            return fp();
        }

        int leave(int v) {
            unless(!frames.isEmpty(), NO_FRAME);
            Frame gone = frames.remove(frames.size() - 1);
            pc = gone.stub.pc;
            go(v, gone.stub.way, gone.stub.address);
            return fp();
        }

        int caught(int way, int address, int pc) {
            unless(0 <= way && way <= 3, BAD);
            unless(!frames.isEmpty(), NO_FRAME);
            top().caught.add(new Stub(way, address, pc));
            top().parts.add(new ArrayList<>());
            int token = sp();
            go(token, way, address);
            fits();
            return token;
        }

        int thrown(int token, int v) {
            unless(tokens().contains(token), TOKEN);
            while (!frames.isEmpty()) {
                Frame frame = top();
                for (int k = frame.caught.size() - 1; k >= 0; k--) {
                    boolean it = token(frames.size() - 1, k) == token;
                    Stub stub = frame.caught.remove(k);
                    frame.parts.remove(k + 1);
                    if (it) {
                        pc = stub.pc;
                        go(v, stub.way, stub.address);
                        return fp();
                    }
                }
                frames.remove(frames.size() - 1);
            }
            throw new IllegalStateException("a live token that stands nowhere");
        }

        // -- values and locals

        List<Integer> last(int n) {
            unless(n >= 0, BAD);
            unless(!frames.isEmpty(), NO_FRAME);
            List<Integer> values = top().values();
            unless(n <= values.size(), UNDER);
            return values.subList(values.size() - n, values.size());
        }

        int push(int v) {
            last(0);
            top().values().add(v);
            fits();
            return top().values().size();
        }

        int pop() {
            popped = last(1).get(0);
            top().values().remove(top().values().size() - 1);
            return top().values().size();
        }

        int peek(int i) {
            last(0);
            unless(0 <= i && i < top().values().size(), UNDER);
            popped = last(i + 1).get(0);
            return 1;
        }

        int copyLast(int n) {
            List<Integer> copied = new ArrayList<>(last(n));
            top().values().addAll(copied);
            fits();
            return top().values().size();
        }

        int roll(int n, int by) {
            Collections.rotate(last(n), by);
            return 1;
        }

        int swap() {
            Collections.swap(last(2), 0, 1);
            return 1;
        }

        void localChecked(int width) {
            unless(width == 1 || width == 2 || width == 4, BAD);
            unless(!frames.isEmpty(), NO_FRAME);
        }

        int load(int place, int width) {
            localChecked(width);
            byte[] locals = top().locals;
            unless(0 <= place && place <= locals.length - width, WAY);
            long v = 0;
            for (int i = 0; i < width; i++) v = v * 256 + Byte.toUnsignedInt(locals[place + i]);
            popped = (int) v;
            return 1;
        }

        int store(int place, int width, int v) {
            localChecked(width);
            setLocal(place, width, v);
            return 1;
        }

        String seen() {
            List<Integer> tokens = tokens();
            int[] counts = {sp(), fp(), frames.isEmpty() ? -1 : top().values().size(), pc, size, tokens.size(),
                tokens.isEmpty() ? -1 : tokens.get(tokens.size() - 1), frames.size()};
            StringBuilder all = new StringBuilder();
            for (int count : counts) all.append(count).append(' ');
            all.append("popped ").append(popped).append(" cells");
            for (int cell : cells) all.append(' ').append(cell);
            all.append(" bytes");
            for (byte b : image()) all.append(' ').append(b & 255);
            return all.toString();
        }
    }

    private static String seen(GlulxFrames x) {
        StringBuilder all = new StringBuilder();
        for (int what = 0; what <= 7; what++) all.append(x.count(what)).append(' ');
        all.append("popped ").append(x.popped()).append(" cells");
        for (int i = 0; i < 16; i++) all.append(' ').append(x.cell(i));
        all.append(" bytes");
        for (int i = 0; i < x.count(0); i++) all.append(' ').append(x.byteAt(i));
        if (x.byteAt(x.count(0)) != -1) all.append(" and one that is not in use");
        return all.toString();
    }

    // -- runs: numbers that are the same at every run of the tests

    private static long state;

    private static int below(int n) {
        state = state * 6364136223846793005L + 1442695040888963407L;
        return (int) Long.remainderUnsigned(state >>> 33, n);
    }

    private static boolean oneIn(int n) {
        return below(n) == 0;
    }

    private static int any() {
        int[] edges = {0, 1, -1, 2, 255, 256, 65535, 65536, Integer.MAX_VALUE, Integer.MIN_VALUE};
        return oneIn(3) ? edges[below(edges.length)] : below(1 << 30) * 4 + below(4);
    }

    private static int mostly(int value) {
        return oneIn(40) ? any() : value;
    }

    private static int f() {
        return mostly(below(40) == 0 ? 12 : below(12));
    }

    private static int address(int way) {
        if (way == 1) return mostly(below(17));
        return mostly(oneIn(4) ? below(40) : 4 * below(6));
    }

    private static int n(Model m) {
        int values = m.frames.isEmpty() ? 0 : m.top().values().size();
        return mostly(oneIn(12) ? values + 1 : below(values + 1));
    }

    private static int place(Model m) {
        int end = m.frames.isEmpty() ? 4 : m.top().locals.length;
        return mostly(oneIn(6) ? end - below(5) : below(end + 1));
    }

    private static int token(Model m) {
        List<Integer> tokens = m.tokens();
        if (tokens.isEmpty() || oneIn(8)) return mostly(below(m.size + 8));
        return tokens.get(oneIn(3) ? below(tokens.size()) : tokens.size() - 1) + (oneIn(20) ? 4 : 0);
    }

    private static int width() {
        return mostly(oneIn(12) ? 3 : 1 << below(3));
    }

    private static Model model;

    /** Answers what the model does on a copy, which stands only if there was no fault. */
    private static int onModel(int kind, int[] a) {
        Model trial = model.copy();
        int answer;
        try {
            answer = act(trial, kind, a);
        } catch (Fault fault) {
            return fault.answer;
        }
        model = trial;
        return answer;
    }

    private static int act(Model m, int kind, int[] a) {
        switch (kind) {
            case 0: return m.function(a[0], a[1]);
            case 1: return m.format(a[0], a[1], a[2]);
            case 2: return m.accelerate(a[0], a[1]);
            case 3: return m.told(a[0], a[1]);
            case 4: return m.local(a[0], a[1]);
            case 5: return m.call(a[0], a[1], a[2], a[3], a[4]);
            case 6: return m.leave(a[0]);
            case 7: return m.caught(a[0], a[1], a[2]);
            case 8: return m.thrown(a[0], a[1]);
            case 9: return m.tail(a[0], a[1]);
            case 10: return m.push(a[0]);
            case 11: return m.pop();
            case 12: return m.peek(a[0]);
            case 13: return m.copyLast(a[0]);
            case 14: return m.roll(a[0], a[1]);
            case 15: return m.swap();
            case 16: return m.load(a[0], a[1]);
            default: return m.store(a[0], a[1], a[2]);
        }
    }

    private static int act(GlulxFrames x, int kind, int[] a) {
        switch (kind) {
            case 0: return x.function(a[0], a[1]);
            case 1: return x.format(a[0], a[1], a[2]);
            case 2: return x.accelerate(a[0], a[1]);
            case 3: return x.told(a[0], a[1]);
            case 4: return x.local(a[0], a[1]);
            case 5: return x.call(a[0], a[1], a[2], a[3], a[4]);
            case 6: return x.leave(a[0]);
            case 7: return x.caught(a[0], a[1], a[2]);
            case 8: return x.thrown(a[0], a[1]);
            case 9: return x.tail(a[0], a[1]);
            case 10: return x.push(a[0]);
            case 11: return x.pop();
            case 12: return x.peek(a[0]);
            case 13: return x.copy(a[0]);
            case 14: return x.roll(a[0], a[1]);
            case 15: return x.swap();
            case 16: return x.load(a[0], a[1]);
            default: return x.store(a[0], a[1], a[2]);
        }
    }

    private static int[] arguments(int kind) {
        int way = mostly(below(4));
        switch (kind) {
            case 0: return new int[] {f(), mostly(oneIn(6) ? below(256) : 0xC0 + below(2))};
            case 1: return new int[] {f(), width(), mostly(oneIn(60) ? below(257) : below(4) + 1)};
            case 2: return new int[] {f(), mostly(below(5))};
            case 3: return new int[] {f(), mostly(below(6))};
            case 4: return new int[] {f(), mostly(below(8))};
            case 5: return new int[] {f(), n(model), way, address(way), any()};
            case 7: return new int[] {way, address(way), any()};
            case 8: return new int[] {token(model), any()};
            case 9: return new int[] {f(), n(model)};
            case 13: return new int[] {n(model)};
            case 14: return new int[] {n(model), any()};
            case 16: return new int[] {place(model), width()};
            case 17: return new int[] {place(model), width(), any()};
            case 12: return new int[] {n(model) - 1};
            default: return new int[] {any()};
        }
    }

    private static int kind() {
        int[] often = {5, 5, 5, 5, 10, 10, 10, 10, 10, 10, 7, 7, 6, 8, 9, 17};
        return oneIn(2) ? often[below(often.length)] : below(18);
    }

    /** How often each kind of act answered each way, so that a run that never gets anywhere is seen. */
    private static final int[][] answered = new int[18][17];

    private static boolean differs(int run, String what, String got, String wanted) {
        if (got.equals(wanted)) return false;
        System.out.println("run " + run + ": " + what + " gave\n  " + got + "\n  due is\n  " + wanted);
        return true;
    }

    private static boolean runIsWrong(int run) {
        state = run;
        int size = oneIn(10) ? any() : 60 + below(oneIn(3) ? 980 : 200);
        GlulxFrames x = new GlulxFrames(size);
        model = new Model(Math.max(64, Math.min(1024, size)) / 4 * 4);
        int[][] start = new int[12][];
        for (int f = 0; f < 12; f++) start[f] = new int[] {f, oneIn(6) ? below(256) : 0xC0 + below(2)};
        for (int[] a : start) {
            x.function(a[0], a[1]);
            model.function(a[0], a[1]);
            if (oneIn(4)) {
                x.accelerate(a[0], 1 + a[0] % 3);
                model.accelerate(a[0], 1 + a[0] % 3);
            }
        }
        for (int call = 0; call < CALLS; call++) {
            int kind = kind();
            int[] a = arguments(kind);
            String what = "call " + call + ", kind " + kind + " " + Arrays.toString(a);
            int got = act(x, kind, a);
            int wanted = onModel(kind, a);
            if (differs(run, what, got + "; " + seen(x), wanted + "; " + model.seen())) return true;
            answered[kind][wanted < 0 ? -wanted : 0]++;
        }
        return false;
    }

    /** Every fault that a kind of act can have came up; a throw's way was good when it was caught. */
    private static boolean isMissing(int kind, int... answers) {
        for (int answer : answers) {
            if (answered[kind][-answer] == 0) {
                System.out.println("kind " + kind + " never answered " + answer);
                return true;
            }
        }
        return false;
    }

    public static void main(String[] args) {
        boolean wrong = false;
        for (int run = 1; run <= RUNS && !wrong; run++) wrong = runIsWrong(run);
        if (!wrong) {
            for (int kind = 0; kind <= 5; kind++) wrong |= isMissing(kind, 0, BAD);
            wrong |= isMissing(5, HEAD, UNDER, WAY, FULL, NO_FRAME);
            wrong |= isMissing(6, 0, -1, NO_FRAME, WAY);
            wrong |= isMissing(7, 0, BAD, NO_FRAME, WAY, FULL);
            wrong |= isMissing(8, 0, TOKEN);
            wrong |= isMissing(9, 0, BAD, NO_FRAME, UNDER, HEAD, FULL, WAY);
            wrong |= isMissing(10, 0, NO_FRAME, FULL);
            wrong |= isMissing(11, 0, NO_FRAME, UNDER);
            wrong |= isMissing(12, 0, NO_FRAME, UNDER);
            wrong |= isMissing(13, 0, BAD, NO_FRAME, UNDER, FULL);
            wrong |= isMissing(14, 0, BAD, NO_FRAME, UNDER);
            wrong |= isMissing(15, 0, NO_FRAME, UNDER);
            wrong |= isMissing(16, 0, BAD, NO_FRAME, WAY);
            wrong |= isMissing(17, 0, BAD, NO_FRAME, WAY);
        }
        System.out.println(wrong ? "the model differs" : RUNS + " runs are as the model has them");
        if (wrong) System.exit(1);
    }
}
