/**
 * Frames of calls as Glulx lays them into one row of bytes.
 *
 * Every call looks for all its faults before it changes anything, so that nothing
 * has to be undone behind a fault. No call makes an object: the rows that one needs
 * are made by the constructor.
 */
public final class GlulxFrames {
    public static final int NONE = -1, BAD = -1;

    private static final int FAULT_HEAD = -11;
    private static final int FAULT_UNDER = -12;
    private static final int FAULT_WAY = -13;
    private static final int FAULT_TOKEN = -14;
    private static final int FAULT_FULL = -15;
    private static final int FAULT_NO_FRAME = -16;

    private static final int TO_NOWHERE = 0;
    private static final int TO_CELL = 1;
    private static final int TO_LOCAL = 2;
    private static final int TO_VALUES = 3;

    private static final int FUNCTIONS = 12;
    private static final int CELLS = 16;
    private static final int STUB_BYTES = 16;
    private static final int VALUE_BYTES = 4;

    private final Row row;
    private final Function[] functions = new Function[FUNCTIONS];
    private final int[] cells = new int[CELLS];

    /** The live ones, earliest first; their places grow, as the stack does. */
    private final int[] tokens;
    private int tokenCount = 0;

    /** Values that are off the stack while the bytes they stood in are written anew. */
    private final int[] taken;

    private int fp = NONE;
    private int pc = 0;
    private int latestPopped = 0;

    public GlulxFrames(int size) {
        row = new Row(size);
        for (int f = 0; f < functions.length; f++) {
            functions[f] = new Function();
        }
        // No two tokens share a stub, and no two values share a byte: neither row can be too short.
        tokens = new int[row.size() / STUB_BYTES + 1];
        taken = new int[row.size() / VALUE_BYTES + 1];
    }

    // ---- functions

    public int function(int f, int head) {
        Function meant = functionOf(f);
        if (meant == null || head < 0 || head > 255) {
            return BAD;
        }
        meant.begin(head);
        return 1;
    }

    public int format(int f, int width, int count) {
        Function meant = functionOf(f);
        if (meant == null || !isWidth(width) || count < 1 || count > 255) {
            return BAD;
        }
        return meant.addPair(width, count);
    }

    public int accelerate(int f, int number) {
        Function meant = functionOf(f);
        if (meant == null || number < 0 || number > Function.POSITIVES) {
            return BAD;
        }
        int before = meant.acceleration;
        meant.acceleration = number;
        return before;
    }

    public int told(int f, int what) {
        Function meant = functionOf(f);
        if (meant == null) {
            return BAD;
        }
        switch (what) {
            case 0: return meant.head;
            case 1: return meant.pairs;
            case 2: return meant.localCount();
            case 3: return meant.frameLength();
            case 4: return meant.localsBegin();
            default: return BAD;
        }
    }

    public int local(int f, int k) {
        Function meant = functionOf(f);
        return meant == null ? BAD : meant.placeOfLocal(k);
    }

    private Function functionOf(int f) {
        return f >= 0 && f < functions.length ? functions[f] : null;
    }

    private static boolean isWidth(int width) {
        return width == 1 || width == 2 || width == 4;
    }

    // ---- calls and returns

    public int call(int f, int n, int way, int address, int pc) {
        Function called = functionOf(f);
        if (called == null || n < 0 || !isWay(way)) {
            return BAD;
        }
        if (n > 0 && fp == NONE) {
            return FAULT_NO_FRAME;
        }
        if (n > valueCount()) {
            return FAULT_UNDER;
        }
        if (called.isAccelerated()) {
            return callAccelerated(called, n, way, address);
        }
        if (!called.hasFrameHead()) {
            return FAULT_HEAD;
        }
        int frameAt = row.end() - VALUE_BYTES * n + STUB_BYTES;
        if (!row.reaches(frameAt + called.bytesWith(n))) {
            return FAULT_FULL;
        }
        takeValues(n);
        pushStub(way, address, pc);
        pushFrame(called, n);
        return fp;
    }

    private int callAccelerated(Function called, int n, int way, int address) {
        if (!canGo(way, address, fp)) {
            return FAULT_WAY;
        }
        int behindArguments = row.end() - VALUE_BYTES * n;
        if (way == TO_VALUES && !row.reaches(behindArguments + VALUE_BYTES)) {
            return FAULT_FULL;
        }
        int given = givenBy(called.acceleration, n);
        row.cutTo(behindArguments);
        send(given, way, address);
        return 1;
    }

    public int tail(int f, int n) {
        Function called = functionOf(f);
        if (called == null || n < 0) {
            return BAD;
        }
        if (fp == NONE) {
            return FAULT_NO_FRAME;
        }
        if (n > valueCount()) {
            return FAULT_UNDER;
        }
        if (called.isAccelerated()) {
            return goBack(fp, givenBy(called.acceleration, n));
        }
        if (!called.hasFrameHead()) {
            return FAULT_HEAD;
        }
        if (!row.reaches(fp + called.bytesWith(n))) {
            return FAULT_FULL;
        }
        takeValues(n);
        dropTokensFrom(fp);
        row.cutTo(fp);
        pushFrame(called, n);
        return fp;
    }

    public int leave(int v) {
        return fp == NONE ? FAULT_NO_FRAME : goBack(fp, v);
    }

    public int caught(int way, int address, int pc) {
        if (!isWay(way)) {
            return BAD;
        }
        if (fp == NONE) {
            return FAULT_NO_FRAME;
        }
        if (!canGo(way, address, fp)) {
            return FAULT_WAY;
        }
        int token = row.end() + STUB_BYTES;
        if (!row.reaches(way == TO_VALUES ? token + VALUE_BYTES : token)) {
            return FAULT_FULL;
        }
        pushStub(way, address, pc);
        addToken(token);
        send(token, way, address);
        return token;
    }

    public int thrown(int token, int v) {
        return isLive(token) ? goBack(token, v) : FAULT_TOKEN;
    }

    /** What an accelerated function gives for the n last values, which stay where they are. */
    private int givenBy(int acceleration, int n) {
        int given = 0;
        for (int i = 0; i < n; i++) {
            int argument = valueFromLast(i);
            switch (acceleration) {
                case Function.SUM:
                    given += argument;
                    break;
                case Function.DIFFERENCE:
                    given = i == 0 ? argument : given - argument;
                    break;
                default:
                    given += argument > 0 ? 1 : 0;
                    break;
            }
        }
        return given;
    }

    // ---- stubs and frames

    private void pushStub(int way, int address, int pc) {
        row.append(way);
        row.append(address);
        row.append(pc);
        row.append(fp);
    }

    /** A return and a throw alike: all from the stub on goes, and v goes by that stub. */
    private int goBack(int stubEnd, int v) {
        int stub = stubEnd - STUB_BYTES;
        int way = row.number(stub, 4);
        int address = row.number(stub + 4, 4);
        int frame = frameBelow(stubEnd);
        if (!canGo(way, address, frame)) {
            return FAULT_WAY;
        }
        pc = row.number(stub + 8, 4);
        fp = frame;
        dropTokensFrom(stubEnd);
        row.cutTo(stub);
        send(v, way, address);
        return fp;
    }

    private int frameBelow(int stubEnd) {
        return row.number(stubEnd - 4, 4);
    }

    /** The arguments are the first n of those taken. */
    private void pushFrame(Function called, int n) {
        fp = row.end();
        row.appendZeros(called.frameLength());
        row.set(fp, 4, called.frameLength());
        row.set(fp + 4, 4, called.localsBegin());
        for (int p = 0; p < called.pairs; p++) {
            row.set(fp + Function.FORMAT_BEGIN + 2 * p, 1, called.widthOfPair(p));
            row.set(fp + Function.FORMAT_BEGIN + 2 * p + 1, 1, called.countOfPair(p));
        }
        if (called.takesPushed()) {
            pushArguments(n);
        } else {
            setLocals(called, n);
        }
    }

    private void pushArguments(int n) {
        for (int i = n - 1; i >= 0; i--) {
            row.append(takenValue(i));
        }
        row.append(n);
    }

    private void setLocals(Function called, int n) {
        int k = 0;
        for (int p = 0; p < called.pairs; p++) {
            for (int i = 0; i < called.countOfPair(p) && k < n; i++) {
                int place = localsAt(fp) + called.placeOfLocal(k);
                row.set(place, called.widthOfPair(p), takenValue(k));
                k++;
            }
        }
    }

    // A frame is asked for its own lengths: its function may have another format by now.

    private static boolean isFrame(int frame) {
        return frame != NONE;
    }

    private int valuesAt(int frame) {
        return frame + row.number(frame, 4);
    }

    private int localsAt(int frame) {
        return frame + row.number(frame + 4, 4);
    }

    private boolean isInLocals(int frame, int place, int width) {
        return place >= 0 && place <= valuesAt(frame) - localsAt(frame) - width;
    }

    private int frameCount() {
        int frames = 0;
        int frame = fp;
        while (isFrame(frame) && frames < row.size()) {
            frames++;
            frame = frameBelow(frame);
        }
        return frames;
    }

    // ---- how a value goes

    private static boolean isWay(int way) {
        return way >= TO_NOWHERE && way <= TO_VALUES;
    }

    private boolean canGo(int way, int address, int frame) {
        switch (way) {
            case TO_NOWHERE: return true;
            case TO_CELL: return isCell(address);
            case TO_LOCAL: return isFrame(frame) && isInLocals(frame, address, 4);
            case TO_VALUES: return isFrame(frame);
            default: return false;
        }
    }

    private void send(int v, int way, int address) {
        switch (way) {
            case TO_CELL:
                if (isCell(address)) {
                    cells[address] = v;
                }
                break;
            case TO_LOCAL:
                row.set(localsAt(fp) + address, 4, v);
                break;
            case TO_VALUES:
                row.append(v);
                break;
            default:
                break;
        }
    }

    private static boolean isCell(int i) {
        return i >= 0 && i < CELLS;
    }

    // ---- live tokens

    private void addToken(int token) {
        if (tokenCount >= 0 && tokenCount < tokens.length) {
            tokens[tokenCount] = token;
            tokenCount++;
        }
    }

    private int latestToken() {
        int last = tokenCount - 1;
        return last >= 0 && last < tokens.length ? tokens[last] : NONE;
    }

    private boolean isLive(int token) {
        for (int i = 0; i < tokenCount && i < tokens.length; i++) {
            if (tokens[i] == token) {
                return true;
            }
        }
        return false;
    }

    private void dropTokensFrom(int place) {
        while (tokenCount > 0 && latestToken() >= place) {
            tokenCount--;
        }
    }

    // ---- values

    public int push(int v) {
        if (fp == NONE) {
            return FAULT_NO_FRAME;
        }
        if (!row.reaches(row.end() + VALUE_BYTES)) {
            return FAULT_FULL;
        }
        row.append(v);
        return valueCount();
    }

    public int pop() {
        int fault = faultOfLast(1);
        if (fault != 0) {
            return fault;
        }
        latestPopped = valueFromLast(0);
        row.cutTo(row.end() - VALUE_BYTES);
        return valueCount();
    }

    public int popped() {
        return latestPopped;
    }

    public int peek(int i) {
        if (fp == NONE) {
            return FAULT_NO_FRAME;
        }
        if (i < 0 || i >= valueCount()) {
            return FAULT_UNDER;
        }
        latestPopped = valueFromLast(i);
        return 1;
    }

    public int copy(int n) {
        int fault = faultOfLast(n);
        if (fault != 0) {
            return fault;
        }
        if (!row.reaches(row.end() + VALUE_BYTES * n)) {
            return FAULT_FULL;
        }
        for (int i = 0; i < n; i++) {
            // Each one pushed puts the next to be copied just as far from the end.
            row.append(valueFromLast(n - 1));
        }
        return valueCount();
    }

    public int roll(int n, int by) {
        int fault = faultOfLast(n);
        if (fault != 0) {
            return fault;
        }
        if (n > 0) {
            rollLast(n, Math.floorMod(by, n));
        }
        return 1;
    }

    public int swap() {
        int fault = faultOfLast(2);
        if (fault != 0) {
            return fault;
        }
        rollLast(2, 1);
        return 1;
    }

    /** Of an act on the n last values; 0: there is none. */
    private int faultOfLast(int n) {
        if (n < 0) {
            return BAD;
        }
        if (fp == NONE) {
            return FAULT_NO_FRAME;
        }
        return n > valueCount() ? FAULT_UNDER : 0;
    }

    /** Up is towards the end, where those that go over it come in again at the bottom. */
    private void rollLast(int n, int up) {
        takeValues(n);
        for (int i = n - 1; i >= 0; i--) {
            int from = i + up;
            row.append(takenValue(from < n ? from : from - n));
        }
    }

    /** Where values of the frame at hand begin: behind its latest live token, if it has one. */
    private int valuesBegin() {
        int token = latestToken();
        return token > fp ? token : valuesAt(fp);
    }

    private int valueCount() {
        return fp == NONE ? 0 : (row.end() - valuesBegin()) / VALUE_BYTES;
    }

    private int valueFromLast(int i) {
        return row.number(row.end() - VALUE_BYTES * (i + 1), VALUE_BYTES);
    }

    private void takeValues(int n) {
        for (int i = 0; i < n && i < taken.length; i++) {
            taken[i] = valueFromLast(i);
        }
        row.cutTo(row.end() - VALUE_BYTES * n);
    }

    /** The last value is taken first: it is number 0. */
    private int takenValue(int i) {
        return i >= 0 && i < taken.length ? taken[i] : 0;
    }

    // ---- locals

    public int load(int place, int width) {
        int fault = faultOfLocal(place, width);
        if (fault != 0) {
            return fault;
        }
        latestPopped = row.number(localsAt(fp) + place, width);
        return 1;
    }

    public int store(int place, int width, int v) {
        int fault = faultOfLocal(place, width);
        if (fault != 0) {
            return fault;
        }
        row.set(localsAt(fp) + place, width, v);
        return 1;
    }

    /** 0: there is none. */
    private int faultOfLocal(int place, int width) {
        if (!isWidth(width)) {
            return BAD;
        }
        if (fp == NONE) {
            return FAULT_NO_FRAME;
        }
        return isInLocals(fp, place, width) ? 0 : FAULT_WAY;
    }

    // ---- what can be seen

    public int byteAt(int i) {
        return i >= 0 && i < row.end() ? row.number(i, 1) : NONE;
    }

    public int cell(int i) {
        return isCell(i) ? cells[i] : 0;
    }

    public int count(int what) {
        switch (what) {
            case 0: return row.end();
            case 1: return fp;
            case 2: return fp == NONE ? NONE : valueCount();
            case 3: return pc;
            case 4: return row.size();
            case 5: return tokenCount;
            case 6: return latestToken();
            case 7: return frameCount();
            default: return BAD;
        }
    }

    /** The stack: its bytes, and up to where they are in use. */
    private static final class Row {
        private static final int LEAST = 64;
        private static final int MOST = 1024;
        private static final int UNIT = 4;

        private final byte[] bytes;
        private int end = 0;

        Row(int asked) {
            int nearest = Math.max(LEAST, Math.min(MOST, asked));
            bytes = new byte[nearest - nearest % UNIT];
        }

        int size() {
            return bytes.length;
        }

        int end() {
            return end;
        }

        boolean reaches(int place) {
            return place <= bytes.length;
        }

        int number(int at, int width) {
            int number = 0;
            for (int i = 0; i < width; i++) {
                number = number << 8 | byteOrZero(at + i);
            }
            return number;
        }

        void set(int at, int width, int number) {
            int rest = number;
            for (int i = width - 1; i >= 0; i--) {
                setByte(at + i, rest);
                rest >>= 8;
            }
        }

        void append(int number) {
            int at = end;
            appendZeros(4);
            set(at, 4, number);
        }

        void appendZeros(int more) {
            for (int i = 0; i < more && end < bytes.length; i++) {
                setByte(end, 0);
                end++;
            }
        }

        void cutTo(int place) {
            if (place >= 0 && place <= end) {
                end = place;
            }
        }

        private int byteOrZero(int at) {
            return at >= 0 && at < bytes.length ? bytes[at] & 255 : 0;
        }

        private void setByte(int at, int number) {
            if (at >= 0 && at < bytes.length) {
                bytes[at] = (byte) number;
            }
        }
    }

    /** What a frame is laid out by. */
    private static final class Function {
        static final int SUM = 1;
        static final int DIFFERENCE = 2;
        static final int POSITIVES = 3;

        /** In a frame: behind the two lengths. */
        static final int FORMAT_BEGIN = 8;

        private static final int MOST_PAIRS = 6;
        private static final int ARGUMENTS_PUSHED = 0xC0;
        private static final int ARGUMENTS_IN_LOCALS = 0xC1;

        int head = 0;
        int acceleration = 0;
        int pairs = 0;
        private final int[] widths = new int[MOST_PAIRS];
        private final int[] counts = new int[MOST_PAIRS];

        void begin(int newHead) {
            head = newHead;
            pairs = 0;
        }

        int addPair(int width, int count) {
            if (pairs < 0 || pairs >= MOST_PAIRS) {
                return BAD;
            }
            widths[pairs] = width;
            counts[pairs] = count;
            pairs++;
            return pairs;
        }

        int widthOfPair(int p) {
            return p >= 0 && p < MOST_PAIRS ? widths[p] : 1;
        }

        int countOfPair(int p) {
            return p >= 0 && p < MOST_PAIRS ? counts[p] : 0;
        }

        boolean isAccelerated() {
            return acceleration != 0;
        }

        boolean hasFrameHead() {
            return head == ARGUMENTS_PUSHED || head == ARGUMENTS_IN_LOCALS;
        }

        boolean takesPushed() {
            return head == ARGUMENTS_PUSHED;
        }

        int localCount() {
            int locals = 0;
            for (int p = 0; p < pairs; p++) {
                locals += countOfPair(p);
            }
            return locals;
        }

        int localsBegin() {
            return upTo(4, FORMAT_BEGIN + 2 * pairs + 2);
        }

        /** From where locals begin; they begin at a multiple of every width. */
        int placeOfLocal(int k) {
            int place = 0;
            int left = k;
            for (int p = 0; p < pairs && left >= 0; p++) {
                int width = widthOfPair(p);
                place = upTo(width, place);
                if (left < countOfPair(p)) {
                    return place + left * width;
                }
                place += countOfPair(p) * width;
                left -= countOfPair(p);
            }
            return NONE;
        }

        int frameLength() {
            int place = localsBegin();
            for (int p = 0; p < pairs; p++) {
                int width = widthOfPair(p);
                place = upTo(width, place) + countOfPair(p) * width;
            }
            return upTo(4, place);
        }

        /** How many bytes stand from its begin on when it has just been called. */
        int bytesWith(int n) {
            return takesPushed() ? frameLength() + VALUE_BYTES * (n + 1) : frameLength();
        }

        /** The unit is a power of two. */
        private static int upTo(int unit, int place) {
            return place + unit - 1 & -unit;
        }
    }
}
