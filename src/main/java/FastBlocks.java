import java.util.Arrays;

/**
 * Fast packers of two published families: rows of sequences, by themselves or in frames with sums;
 * elements behind a length, by themselves or in chunks with masked sums.
 *
 * All rows are made once, with the object: no call makes another one.
 */
public final class FastBlocks {
    public static final int BAD = -1, NONE = -2, FULL = -3;

    private static final int MOST_INPUT = 4000;
    private static final int MOST_OUT = 12000;
    private static final int MOST_DICTIONARY = 1000;
    private static final int LEAST_BLOCK = 16;
    // A frame's smallest block takes four bytes of the input.
    private static final int MOST_BLOCKS = MOST_INPUT / 4;
    private static final long NO_SIGN = (1L << 32) - 1;
    private static final int NO_SPAN = MOST_INPUT + MOST_DICTIONARY;

    private static final int SEQUENCES = 0, FRAMES = 1, ELEMENTS = 2, CHUNKS = 3;
    private static final int BLOCK_BYTES = 0, LEANING = 1, BLOCK_SUMS = 2, SIZE_TOLD = 3, SUM_OF_ALL = 4, ID = 5;

    private static final int FLAG_VERSION = 64, FLAG_ALONE = 32, FLAG_BLOCK_SUMS = 16, FLAG_SIZE = 8;
    private static final int FLAG_SUM = 4, FLAG_UNKNOWN = 2, FLAG_ID = 1;
    private static final int FLAGS_OF_VERSION = 192;
    private static final long FRAME_MARK = 4 + (34 << 8) + (77 << 16) + (24 << 24);
    private static final long PIECE_MARK = 80 + (42 << 8) + (77 << 16) + (24 << 24);
    private static final long RAW_MARK = 1L << 31;
    private static final int LEAST_WIDTH = 4, MOST_WIDTH = 7;

    private static final int KIND_PACKED = 0, KIND_RAW = 1, KIND_PASSED = 128, KIND_FIRST = 255;
    // No copy of sequences is shorter, begins nearer to the end or leaves fewer literals behind the last one.
    private static final int LEAST_COPY = 4, END_OF_COPIES = 12, END_LITERALS = 5;

    private static final int[] FIRST_CHUNK = {115, 78, 97, 80, 112, 89};

    private final Bytes input = new Bytes(MOST_INPUT);
    private final Bytes words = new Bytes(MOST_DICTIONARY);
    private final int[] settings = new int[6];
    private final Text text = new Text();
    private final Packer packer = new Packer(input, words, settings, text);
    private final Opener opener = new Opener(input, words, settings);
    // What is packed or opened goes to the spare ones first, so that a refusal leaves the others as they are.
    private Bytes output = new Bytes(MOST_OUT);
    private Bytes spareOutput = new Bytes(MOST_OUT);
    private Blocks blocks = new Blocks();
    private Blocks spareBlocks = new Blocks();

    public FastBlocks() {
        settings[BLOCK_BYTES] = MOST_INPUT;
    }

    public int feed(int a, int b, int c, int d, int e) {
        if (input.room() < 20) {
            return FULL;
        }
        input.addHighestFirst(a);
        input.addHighestFirst(b);
        input.addHighestFirst(c);
        input.addHighestFirst(d);
        input.addHighestFirst(e);
        return input.size();
    }

    public int cut(int n) {
        int had = input.size();
        if (n < 0 || n > had) {
            return BAD;
        }
        input.keep(n);
        return had - n;
    }

    public int out(int i) {
        return i < 0 || i >= output.size() ? BAD : output.at(i);
    }

    public int back() {
        if (output.size() > MOST_INPUT) {
            return FULL;
        }
        input.become(output);
        return input.size();
    }

    public int dictionary() {
        if (input.size() > MOST_DICTIONARY) {
            return FULL;
        }
        words.become(input);
        input.keep(0);
        return words.size();
    }

    public int set(int what, int v) {
        if (what < BLOCK_BYTES || what > ID) {
            return BAD;
        }
        if (what == BLOCK_BYTES && (v < LEAST_BLOCK || v > MOST_INPUT)) {
            return BAD;
        }
        if (what >= LEANING && what <= SUM_OF_ALL && v != 0 && v != 1) {
            return BAD;
        }
        int was = settings[what];
        settings[what] = v;
        return was;
    }

    public int pack(int form, int level) {
        if (form < SEQUENCES || form > CHUNKS || isNoLevel(level)) {
            return BAD;
        }
        packer.start(level, spareOutput, spareBlocks, 0);
        switch (form) {
            case SEQUENCES:
                packer.packSequences();
                break;
            case FRAMES:
                packer.packFrame();
                break;
            case ELEMENTS:
                packer.packElements();
                break;
            default:
                packer.packChunks();
                break;
        }
        exchangeOutputs();
        exchangeBlocks();
        input.keep(0);
        return output.size();
    }

    public int more(int form, int level) {
        if (form != FRAMES && form != CHUNKS || isNoLevel(level)) {
            return BAD;
        }
        packer.start(level, spareOutput, spareBlocks, output.size());
        if (form == FRAMES) {
            packer.packFrame();
        } else {
            packer.packChunks();
        }
        if (spareOutput.size() > output.room()) {
            return FULL;
        }
        output.addRange(spareOutput, 0, spareOutput.size());
        exchangeBlocks();
        input.keep(0);
        return output.size();
    }

    public int skip(int form, int kind) {
        boolean piece = form == FRAMES && kind >= 80 && kind <= 95;
        boolean chunk = form == CHUNKS && kind >= KIND_PASSED && kind < KIND_FIRST;
        if (!piece && !chunk) {
            return BAD;
        }
        int n = input.size();
        if (n + (piece ? 8 : 4) > output.room()) {
            return FULL;
        }
        if (piece) {
            output.addNumber(PIECE_MARK + kind - 80, 4);
            output.addNumber(n, 4);
        } else {
            output.addNumber(kind, 1);
            output.addNumber(n, 3);
        }
        output.addRange(input, 0, n);
        input.keep(0);
        return output.size();
    }

    public int open(int form) {
        if (form < SEQUENCES || form > CHUNKS) {
            return BAD;
        }
        opener.start(spareOutput, spareBlocks);
        boolean whole;
        switch (form) {
            case SEQUENCES:
                whole = opener.openWholeSequences();
                break;
            case FRAMES:
                whole = opener.openFrames();
                break;
            case ELEMENTS:
                whole = opener.openWholeElements();
                break;
            default:
                whole = opener.openChunks();
                break;
        }
        input.keep(0);
        if (!whole) {
            return -10 - opener.brokenRule();
        }
        exchangeOutputs();
        exchangeBlocks();
        return output.size();
    }

    public int rule(int what) {
        if (what == 0) {
            return opener.brokenRule();
        }
        if (what == 1) {
            return opener.brokenRule() == 0 ? NONE : opener.brokenPlace();
        }
        return BAD;
    }

    public int block(int i, int what) {
        if (what < 0 || what >= Blocks.FACTS) {
            return BAD;
        }
        return i < 0 || i >= blocks.size() ? NONE : blocks.fact(i, what);
    }

    public int longest(int p) {
        if (p < 0 || p >= input.size()) {
            return BAD;
        }
        text.load(words, input, 0, input.size());
        return text.reach(words.size() + p, input.size() - p, NO_SPAN);
    }

    public int near(int p, int k) {
        if (p < 0 || p >= input.size() || k < 1 || k > input.size() - p) {
            return BAD;
        }
        text.load(words, input, 0, input.size());
        int offset = text.offsetOf(words.size() + p, k);
        return offset == 0 ? NONE : offset;
    }

    public long sum(int which) {
        switch (which) {
            case 0:
                return NO_SIGN & Sums.sumOf(output, 0, output.size());
            case 1:
                return NO_SIGN & Sums.crcOf(output, 0, output.size());
            case 2:
                return NO_SIGN & Sums.maskedCrcOf(output, 0, output.size());
            default:
                return BAD;
        }
    }

    public long bound(int form, int n) {
        if (n < 0) {
            return BAD;
        }
        if (form == SEQUENCES) {
            return (long) n + n / 255 + 16;
        }
        return form == ELEMENTS ? 32L + n + n / 6 : BAD;
    }

    public int told(int what) {
        switch (what) {
            case 0:
                return input.size();
            case 1:
                return output.size();
            case 2:
                return words.size();
            case 3:
                return blocks.size();
            default:
                return BAD;
        }
    }

    private static boolean isNoLevel(int level) {
        return level < 0 || level > 2;
    }

    private void exchangeOutputs() {
        Bytes had = output;
        output = spareOutput;
        spareOutput = had;
    }

    private void exchangeBlocks() {
        Blocks had = blocks;
        blocks = spareBlocks;
        spareBlocks = had;
    }

    /** A row of bytes that grows up to a fixed length; what is outside of it reads as 0. */
    private static final class Bytes {
        private final byte[] held;
        private int count;

        Bytes(int most) {
            held = new byte[Math.max(most, 0)];
        }

        int size() {
            return count;
        }

        int room() {
            return held.length - count;
        }

        int at(int i) {
            return i < 0 || i >= count ? 0 : held[i] & 255;
        }

        long number(int from, int bytes) {
            long v = 0;
            for (int i = 0; i < bytes; i++) {
                v |= (long) at(from + i) << (8 * i);
            }
            return v;
        }

        int number32(int from) {
            if (from < 0 || from > count - 4) {
                return 0;
            }
            return held[from] & 255 | (held[from + 1] & 255) << 8
                    | (held[from + 2] & 255) << 16 | (held[from + 3] & 255) << 24;
        }

        void add(int b) {
            if (count < held.length) {
                held[count] = (byte) b;
                count++;
            }
        }

        void addNumber(long v, int bytes) {
            for (int i = 0; i < bytes && count < held.length; i++) {
                held[count] = (byte) (v >>> (8 * i));
                count++;
            }
        }

        void changeNumber(int from, long v, int bytes) {
            for (int i = 0; i < bytes; i++) {
                int at = from + i;
                if (at >= 0 && at < count) {
                    held[at] = (byte) (v >>> (8 * i));
                }
            }
        }

        void addHighestFirst(int v) {
            for (int shift = 24; shift >= 0; shift -= 8) {
                add(v >>> shift);
            }
        }

        void addArray(byte[] other, int from, int n) {
            if (from >= 0 && n >= 0 && n <= other.length - from && n <= held.length - count) {
                System.arraycopy(other, from, held, count, n);
                count += n;
            }
        }

        void addRange(Bytes other, int from, int n) {
            if (from >= 0 && n >= 0 && n <= other.count - from && n <= held.length - count) {
                System.arraycopy(other.held, from, held, count, n);
                count += n;
            }
        }

        /** Each byte is that of some bytes back, which may have come just now. */
        void addAgain(int offset, int n) {
            if (offset < 1 || offset > count || n > held.length - count) {
                return;
            }
            for (int i = 0; i < n; i++) {
                held[count] = held[count - offset];
                count++;
            }
        }

        void keep(int n) {
            if (n >= 0 && n < count) {
                count = n;
            }
        }

        void become(Bytes other) {
            keep(0);
            addRange(other, 0, other.count);
        }
    }

    /** The sums of both families. */
    private static final class Sums {
        private static final int A = (int) 2654435761L;
        private static final int B = (int) 2246822519L;
        private static final int C = (int) 3266489917L;
        private static final int D = 668265263;
        private static final int E = 374761393;
        private static final int CRC_TURN = (int) 2197175160L;
        private static final int CRC_MASK = (int) 2726488792L;

        static int sumOf(Bytes bytes, int from, int n) {
            int whole = n >= 16 ? n - n % 16 : 0;
            int h = (whole > 0 ? sixteens(bytes, from, whole) : E) + n;
            int at = from + whole;
            int end = from + n;
            for (; end - at >= 4; at += 4) {
                h = turned(h + bytes.number32(at) * C, 17) * D;
            }
            for (; at < end; at++) {
                h = turned(h + bytes.at(at) * E, 11) * A;
            }
            h = (h ^ h >>> 15) * B;
            h = (h ^ h >>> 13) * C;
            return h ^ h >>> 16;
        }

        private static int sixteens(Bytes bytes, int from, int n) {
            int v1 = A + B;
            int v2 = B;
            int v3 = 0;
            int v4 = -A;
            for (int at = from; at < from + n; at += 16) {
                v1 = mixed(v1, bytes.number32(at));
                v2 = mixed(v2, bytes.number32(at + 4));
                v3 = mixed(v3, bytes.number32(at + 8));
                v4 = mixed(v4, bytes.number32(at + 12));
            }
            return turned(v1, 1) + turned(v2, 7)
                    + turned(v3, 12) + turned(v4, 18);
        }

        private static int mixed(int v, int number) {
            int x = v + number * B;
            return (x << 13 | x >>> 19) * A;
        }

        private static int turned(int x, int n) {
            return x << n | x >>> 32 - n;
        }

        static int crcOf(Bytes bytes, int from, int n) {
            int c = -1;
            for (int i = 0; i < n; i++) {
                c ^= bytes.at(from + i);
                for (int bit = 0; bit < 8; bit++) {
                    c = (c & 1) == 0 ? c >>> 1 : c >>> 1 ^ CRC_TURN;
                }
            }
            return ~c;
        }

        static int maskedCrcOf(Bytes bytes, int from, int n) {
            return turned(crcOf(bytes, from, n), 17) + CRC_MASK;
        }
    }

    /** What block() tells of each block; parts are sequences or elements. */
    private static final class Blocks {
        static final int FACTS = 7;
        private final int[] facts = new int[FACTS * MOST_BLOCKS];
        private int count;

        int size() {
            return count;
        }

        int fact(int i, int what) {
            return i < 0 || i >= count || what < 0 || what >= FACTS ? 0 : facts[i * FACTS + what];
        }

        void clear() {
            count = 0;
        }

        void addRaw(int begin, int bytes) {
            addRow(begin, bytes, bytes, 1, 0, bytes, 0);
        }

        void addPacked(int begin, int bytes, int comes, int copies, int literals, int parts) {
            addRow(begin, bytes, comes, 0, copies, literals, parts);
        }

        private void addRow(int begin, int bytes, int comes, int raw, int copies, int literals, int parts) {
            if (count < MOST_BLOCKS) {
                int at = count * FACTS;
                facts[at] = begin;
                facts[at + 1] = bytes;
                facts[at + 2] = comes;
                facts[at + 3] = raw;
                facts[at + 4] = copies;
                facts[at + 5] = literals;
                facts[at + 6] = parts;
                count++;
            }
        }
    }

    /** What a block leans on and, behind it, the block; finds what stands before, too. */
    private static final class Text {
        private static final int MOST = MOST_DICTIONARY + MOST_INPUT;
        private static final int NOWHERE = -1;
        private final byte[] held = new byte[MOST];
        // For each place the nearest one before it with the same byte, and for each byte its latest place.
        private final int[] before = new int[MOST];
        private final int[] latest = new int[256];
        private int count;
        // How far back the latest reach() found the most.
        private int foundOffset;
        // The latest place of reachDownward(), with its limit and what was found there.
        private int downPlace;
        private int downLimit;
        private int downMost;
        private int downOffset;

        void load(Bytes lean, Bytes bytes, int from, int n) {
            clear();
            append(lean, 0, lean.size());
            append(bytes, from, n);
        }

        void loadAlone(Bytes bytes, int from, int n) {
            clear();
            append(bytes, from, n);
        }

        private void clear() {
            count = 0;
            downPlace = NOWHERE;
            Arrays.fill(latest, NOWHERE);
        }

        private void append(Bytes bytes, int from, int n) {
            for (int i = 0; i < n && count < MOST; i++) {
                int b = bytes.at(from + i);
                held[count] = (byte) b;
                before[count] = latest[b];
                latest[b] = count;
                count++;
            }
        }

        /** The most bytes, up to a limit, that stand from some place before, at most span back. */
        int reach(int place, int limit, int span) {
            if (place < 0 || limit < 1 || limit > count - place) {
                return 0;
            }
            int best = 0;
            int from = before[place];
            for (int tries = 0; tries < count && from >= 0 && place - from <= span && best < limit; tries++) {
                int same = 0;
                if (held[from + best] == held[place + best]) {
                    while (same < limit && held[from + same] == held[place + same]) {
                        same++;
                    }
                }
                if (same > best) {
                    best = same;
                    foundOffset = place - from;
                }
                from = before[from];
            }
            return best;
        }

        /**
         * As reach() of any span, quicker for places that come one after the other, the last one first: what stands
         * from some offset at a place stands but for its first byte from there at the next one, so that there can be
         * but one byte more than were found there.
         */
        int reachDownward(int place, int limit) {
            boolean nothing = place < 0 || limit < 1 || limit > count - place;
            boolean follows = place == downPlace - 1 && limit <= downLimit + 1;
            int most = follows ? Math.min(limit, downMost + 1) : limit;
            downPlace = place;
            downLimit = nothing ? 0 : limit;
            if (nothing) {
                downMost = 0;
            } else if (follows && downMost > 0 && goesOn(place)) {
                downMost = most;
            } else {
                downMost = reach(place, most, NO_SPAN);
                downOffset = foundOffset;
            }
            return downMost;
        }

        private boolean goesOn(int place) {
            return downOffset <= place && held[place] == held[place - downOffset];
        }

        /** How far back the nearest place is from which as many bytes stand, or 0. */
        int offsetOf(int place, int length) {
            if (place < 0 || length < 1 || length > count - place) {
                return 0;
            }
            int from = before[place];
            for (int tries = 0; tries < count && from >= 0; tries++) {
                if (held[from + length - 1] == held[place + length - 1] && alike(from, place, length) == length) {
                    return place - from;
                }
                from = before[from];
            }
            return 0;
        }

        private int alike(int from, int place, int limit) {
            int n = 0;
            while (n < limit && held[from + n] == held[place + n]) {
                n++;
            }
            return n;
        }

        void copyTo(Bytes to, int from, int n) {
            to.addArray(held, from, n);
        }
    }

    /** How the parts of a block are written, and what they cost. */
    private abstract static class Form {
        /** The most bytes that a copy at a place of a block of n may have. */
        abstract int limitAt(int place, int n);

        /** The next of the copies that a match of so many bytes becomes. */
        abstract int pieceOf(int left);

        /** The fewest and the most bytes of a copy in the row with the fewest bytes. */
        abstract int leastCopy();

        abstract int mostCopy();

        /** The bytes that literals take beside themselves, and the most literals that take as many. */
        abstract int headOf(int literals);

        abstract int sameHeadTo(int literals);

        /** Up to how many bytes a copy is cheaper if it is close, and how far back that is. */
        abstract int mostClose();

        abstract int closeSpan();

        /** The bytes that a copy takes, and the longest copy that takes as many; close: how long one can be so. */
        abstract int copyCost(int length, int close);

        abstract int sameCostTo(int length, int close);

        abstract void writeHead(Bytes to, int n);

        /** Literals of the text and a copy behind them (of 0 bytes: the end): how many parts these are. */
        abstract int write(Text text, Bytes to, int from, int literals, int length, int offset);
    }

    private static final class Sequences extends Form {
        int limitAt(int place, int n) {
            return place <= n - END_OF_COPIES ? n - END_LITERALS - place : 0;
        }

        int pieceOf(int left) {
            return left;
        }

        int leastCopy() {
            return LEAST_COPY;
        }

        int mostCopy() {
            return MOST_INPUT;
        }

        int headOf(int literals) {
            return 1 + addedBytes(literals);
        }

        int sameHeadTo(int literals) {
            return literals < 15 ? 14 : literals + 254 - (literals - 15) % 255;
        }

        int mostClose() {
            return 0;
        }

        int closeSpan() {
            return 0;
        }

        int copyCost(int length, int close) {
            return 2 + addedBytes(length - LEAST_COPY);
        }

        int sameCostTo(int length, int close) {
            return LEAST_COPY + sameHeadTo(length - LEAST_COPY);
        }

        void writeHead(Bytes to, int n) {
        }

        int write(Text text, Bytes to, int from, int literals, int length, int offset) {
            int told = Math.max(length - LEAST_COPY, 0);
            to.add(16 * Math.min(literals, 15) + Math.min(told, 15));
            writeAdded(to, literals);
            text.copyTo(to, from, literals);
            if (length > 0) {
                to.addNumber(offset, 2);
                writeAdded(to, told);
            }
            return 1;
        }

        private static int addedBytes(int number) {
            return number < 15 ? 0 : 1 + (number - 15) / 255;
        }

        private static void writeAdded(Bytes to, int number) {
            int left = number - 15;
            for (; left >= 255; left -= 255) {
                to.add(255);
            }
            if (left >= 0) {
                to.add(left);
            }
        }
    }

    private static final class Elements extends Form {
        private static final int MOST_COPY = 64, MOST_SHORT = 11, SHORT_SPAN = 2047;

        int limitAt(int place, int n) {
            return n - place;
        }

        int pieceOf(int left) {
            if (left >= MOST_COPY + LEAST_COPY) {
                return MOST_COPY;
            }
            return left > MOST_COPY ? MOST_COPY - LEAST_COPY : left;
        }

        int leastCopy() {
            return 1;
        }

        int mostCopy() {
            return MOST_COPY;
        }

        int headOf(int literals) {
            if (literals <= 60) {
                return literals == 0 ? 0 : 1;
            }
            return literals <= 256 ? 2 : 3;
        }

        int sameHeadTo(int literals) {
            if (literals <= 60) {
                return literals == 0 ? 0 : 60;
            }
            return literals <= 256 ? 256 : 65536;
        }

        int mostClose() {
            return MOST_SHORT;
        }

        int closeSpan() {
            return SHORT_SPAN;
        }

        int copyCost(int length, int close) {
            return length >= LEAST_COPY && length <= close ? 2 : 3;
        }

        int sameCostTo(int length, int close) {
            if (length < LEAST_COPY) {
                return LEAST_COPY - 1;
            }
            return length <= close ? close : MOST_COPY;
        }

        void writeHead(Bytes to, int n) {
            int left = n;
            for (; left >= 128; left >>= 7) {
                to.add(128 + left % 128);
            }
            to.add(left);
        }

        int write(Text text, Bytes to, int from, int literals, int length, int offset) {
            int parts = 0;
            if (literals > 0) {
                int numbers = headOf(literals) - 1;
                to.add(4 * (numbers == 0 ? literals - 1 : 59 + numbers));
                to.addNumber(literals - 1, numbers);
                text.copyTo(to, from, literals);
                parts++;
            }
            if (length > 0) {
                writeCopy(to, length, offset);
                parts++;
            }
            return parts;
        }

        private static void writeCopy(Bytes to, int length, int offset) {
            if (length >= LEAST_COPY && length <= MOST_SHORT && offset <= SHORT_SPAN) {
                to.add(32 * (offset / 256) + 4 * (length - LEAST_COPY) + 1);
                to.add(offset);
            } else {
                to.add(4 * (length - 1) + 2);
                to.addNumber(offset, 2);
            }
        }
    }

    /**
     * A value for each place, put from the last place down to the first, and the place of the least of a range.
     * Parts of the row know their own least ones, so that a range is asked of few places.
     */
    private static final class Lows {
        private static final int PART = 64;
        private final boolean lastOfEquals;
        private final int[] value = new int[MOST_INPUT + 1];
        // The place of the least from here to the end of the part, and from its beginning to here.
        private final int[] leastOnward = new int[MOST_INPUT + 1];
        private final int[] leastSoFar = new int[MOST_INPUT + 1];
        private int last;

        Lows(boolean lastOfEquals) {
            this.lastOfEquals = lastOfEquals;
        }

        void start(int lastPlace) {
            last = Math.min(lastPlace, MOST_INPUT);
        }

        int valueAt(int place) {
            return place < 0 || place > last ? 0 : value[place];
        }

        void put(int place, int v) {
            if (place < 0 || place > last) {
                return;
            }
            value[place] = v;
            boolean endOfPart = place == last || place % PART == PART - 1;
            leastOnward[place] = endOfPart ? place : better(place, leastOnward[place + 1]);
            if (place % PART == 0) {
                leastSoFar[place] = place;
                for (int later = place + 1; later < place + PART && later <= last; later++) {
                    leastSoFar[later] = better(leastSoFar[later - 1], later);
                }
            }
        }

        int placeOfLeast(int from, int to) {
            if (from < 0 || to > last || from > to) {
                return 0;
            }
            int least = from;
            if (from / PART == to / PART) {
                for (int place = from + 1; place <= to; place++) {
                    least = better(least, place);
                }
                return least;
            }
            least = leastOnward[from];
            for (int part = from / PART + 1; part < to / PART; part++) {
                least = better(least, leastOnward[part * PART]);
            }
            return better(least, leastSoFar[to]);
        }

        private int better(int earlier, int later) {
            if (value[earlier] == value[later]) {
                return lastOfEquals ? later : earlier;
            }
            return value[earlier] < value[later] ? earlier : later;
        }
    }

    /**
     * The row with the fewest bytes: from the last place of the block down to the first, what the cheapest rest
     * costs that begins there with literals (or none), and with a copy.
     */
    private static final class BestRow {
        private static final int FAR = 1 << 28;
        private static final int MOST_STEPS = 32;
        // Of equals the fewest literals, and the longest copy. To a copy's cost its place is added, so that those of
        // one range compare with the literals before them.
        private final Lows copies = new Lows(false);
        private final Lows rests = new Lows(true);
        private final int[] placeOfCopy = new int[MOST_INPUT + 1];
        private final int[] lengthOfCopy = new int[MOST_INPUT + 1];
        private Form form;
        private int count;

        void find(Form ofForm, Text text, int base, int n) {
            form = ofForm;
            count = Math.max(0, Math.min(n, MOST_INPUT));
            copies.start(count);
            rests.start(count);
            for (int place = count; place >= 0; place--) {
                findCopy(text, base, place);
                findRest(place);
            }
        }

        /** Where the next copy is for a rest that begins at a place; the end of the block: nowhere. */
        int placeFrom(int place) {
            return place < 0 || place > count ? count : placeOfCopy[place];
        }

        int lengthAt(int place) {
            return place < 0 || place > count ? 0 : lengthOfCopy[place];
        }

        private void findCopy(Text text, int base, int place) {
            int limit = Math.min(form.limitAt(place, count), form.mostCopy());
            int most = text.reachDownward(base + place, limit);
            int close = text.reach(base + place, Math.min(most, form.mostClose()), form.closeSpan());
            int least = FAR;
            lengthOfCopy[place] = 0;
            int from = form.leastCopy();
            for (int step = 0; step < MOST_STEPS && from <= most; step++) {
                int to = Math.min(most, form.sameCostTo(from, close));
                int next = rests.placeOfLeast(place + from, place + to);
                int cost = form.copyCost(from, close) + rests.valueAt(next);
                if (cost <= least) {
                    least = cost;
                    lengthOfCopy[place] = next - place;
                }
                from = to + 1;
            }
            copies.put(place, least + place);
        }

        private void findRest(int place) {
            int left = count - place;
            int least = FAR;
            placeOfCopy[place] = count;
            int from = 0;
            for (int step = 0; step < MOST_STEPS && from <= left; step++) {
                int to = Math.min(left, form.sameHeadTo(from));
                int next = copies.placeOfLeast(place + from, place + to);
                int cost = form.headOf(from) + copies.valueAt(next) - place;
                if (cost < least) {
                    least = cost;
                    placeOfCopy[place] = next;
                }
                from = to + 1;
            }
            if (form.headOf(left) + left < least) {
                least = form.headOf(left) + left;
                placeOfCopy[place] = count;
            }
            rests.put(place, least);
        }
    }

    /** Packs the input in any form. */
    private static final class Packer {
        private final Bytes input;
        private final Bytes words;
        private final int[] settings;
        private final Text text;
        private final Form sequences = new Sequences();
        private final Form elements = new Elements();
        private final BestRow bestRow = new BestRow();
        // The row that is chosen for a block: at each place where a copy begins, how many bytes it has.
        private final int[] copyAt = new int[MOST_INPUT];
        private Bytes to;
        private Blocks blocks;
        private int level;
        // How many bytes will stand before those that are written.
        private int shift;
        // The block that is packed now: its form, its first place in the text, its length, what is counted of it.
        private Form form;
        private int base;
        private int count;
        private int copies;
        private int literals;
        private int parts;

        Packer(Bytes input, Bytes words, int[] settings, Text text) {
            this.input = input;
            this.words = words;
            this.settings = settings;
            this.text = text;
        }

        void start(int byLevel, Bytes toBytes, Blocks toBlocks, int behind) {
            to = toBytes;
            blocks = toBlocks;
            level = byLevel;
            shift = behind;
            to.keep(0);
            blocks.clear();
        }

        void packSequences() {
            text.load(words, input, 0, input.size());
            packBlock(sequences, words.size(), input.size());
            blocks.addPacked(shift, to.size(), input.size(), copies, literals, parts);
        }

        void packElements() {
            text.loadAlone(input, 0, input.size());
            packBlock(elements, 0, input.size());
            blocks.addPacked(shift, to.size(), input.size(), copies, literals, parts);
        }

        private boolean isSet(int what) {
            return settings[what] != 0;
        }

        private int blockBytes() {
            return Math.max(LEAST_BLOCK, settings[BLOCK_BYTES]);
        }

        void packFrame() {
            writeFrameHead();
            if (isSet(LEANING)) {
                text.load(words, input, 0, input.size());
            }
            int most = blockBytes();
            for (int from = 0; from < input.size(); from += most) {
                packFrameBlock(from, Math.min(most, input.size() - from));
            }
            to.addNumber(0, 4);
            if (isSet(SUM_OF_ALL)) {
                to.addNumber(Sums.sumOf(input, 0, input.size()), 4);
            }
        }

        private void writeFrameHead() {
            to.addNumber(FRAME_MARK, 4);
            int flags = to.size();
            to.add(FLAG_VERSION + (isSet(LEANING) ? 0 : FLAG_ALONE) + (isSet(BLOCK_SUMS) ? FLAG_BLOCK_SUMS : 0)
                    + (isSet(SIZE_TOLD) ? FLAG_SIZE : 0) + (isSet(SUM_OF_ALL) ? FLAG_SUM : 0)
                    + (isSet(ID) ? FLAG_ID : 0));
            to.add(16 * LEAST_WIDTH);
            if (isSet(SIZE_TOLD)) {
                to.addNumber(input.size(), 8);
            }
            if (isSet(ID)) {
                to.addNumber(settings[ID], 4);
            }
            to.add(Sums.sumOf(to, flags, to.size() - flags) >>> 8);
        }

        private void packFrameBlock(int from, int n) {
            int head = to.size();
            to.addNumber(0, 4);
            int begin = to.size();
            if (isSet(LEANING)) {
                packBlock(sequences, words.size() + from, n);
            } else {
                text.load(words, input, from, n);
                packBlock(sequences, words.size(), n);
            }
            boolean raw = endBlock(begin, from, n);
            int bytes = to.size() - begin;
            to.changeNumber(head, raw ? bytes + RAW_MARK : bytes, 4);
            if (isSet(BLOCK_SUMS)) {
                to.addNumber(Sums.sumOf(to, begin, bytes), 4);
            }
        }

        void packChunks() {
            to.add(KIND_FIRST);
            to.addNumber(FIRST_CHUNK.length, 3);
            for (int b : FIRST_CHUNK) {
                to.add(b);
            }
            int most = blockBytes();
            for (int from = 0; from < input.size(); from += most) {
                packChunk(from, Math.min(most, input.size() - from));
            }
        }

        private void packChunk(int from, int n) {
            int head = to.size();
            to.addNumber(0, 4);
            to.addNumber(Sums.maskedCrcOf(input, from, n), 4);
            int begin = to.size();
            text.loadAlone(input, from, n);
            packBlock(elements, 0, n);
            boolean raw = endBlock(begin, from, n);
            to.changeNumber(head, raw ? KIND_RAW : KIND_PACKED, 1);
            to.changeNumber(head + 1, to.size() - begin + 4, 3);
        }

        /** Keeps the bytes of a block, or makes it raw if they are not fewer: whether it is. */
        private boolean endBlock(int begin, int from, int n) {
            int bytes = to.size() - begin;
            if (bytes < n) {
                blocks.addPacked(shift + begin, bytes, n, copies, literals, parts);
                return false;
            }
            to.keep(begin);
            to.addRange(input, from, n);
            blocks.addRaw(shift + begin, n);
            return true;
        }

        private void packBlock(Form ofForm, int place, int n) {
            form = ofForm;
            base = place;
            count = Math.max(0, Math.min(n, MOST_INPUT));
            Arrays.fill(copyAt, 0, count, 0);
            if (level == 2) {
                bestRow.find(form, text, base, count);
                chooseBestRow();
            } else {
                chooseLongest();
            }
            form.writeHead(to, count);
            writeRow();
        }

        private void chooseBestRow() {
            int place = bestRow.placeFrom(0);
            for (int steps = 0; steps < MOST_INPUT && place < count; steps++) {
                copyAt[place] = bestRow.lengthAt(place);
                place = bestRow.placeFrom(place + copyAt[place]);
            }
        }

        private void chooseLongest() {
            int place = 0;
            int here = matchAt(0);
            for (int steps = 0; steps < MOST_INPUT && place < count; steps++) {
                int next = here > 0 && level == 0 ? 0 : matchAt(place + 1);
                if (here == 0 || next > here) {
                    place++;
                    here = next;
                } else {
                    choosePieces(place, here);
                    place += here;
                    here = matchAt(place);
                }
            }
        }

        private int matchAt(int place) {
            int length = text.reach(base + place, form.limitAt(place, count), NO_SPAN);
            return length < LEAST_COPY ? 0 : length;
        }

        private void choosePieces(int place, int length) {
            int left = Math.min(length, count - place);
            int end = place + left;
            for (int steps = 0; steps < MOST_INPUT && left > 0; steps++) {
                copyAt[end - left] = form.pieceOf(left);
                left -= copyAt[end - left];
            }
        }

        private void writeRow() {
            copies = 0;
            literals = 0;
            parts = 0;
            int written = 0;
            for (int place = 0; place < count; place++) {
                int length = copyAt[place];
                if (length > 0) {
                    int offset = text.offsetOf(base + place, length);
                    parts += form.write(text, to, base + written, place - written, length, offset);
                    literals += place - written;
                    copies++;
                    written = place + length;
                }
            }
            parts += form.write(text, to, base + written, count - written, 0, 0);
            literals += count - written;
        }
    }

    /** Opens the input in any form, up to the first rule that is broken. */
    private static final class Opener {
        private static final int LACKING = 1, WRONG_OFFSET = 2, WRONG_END = 3, WRONG_MARK = 4, WRONG_HEAD = 5;
        private static final int WRONG_HEAD_SUM = 6, LONG_BLOCK = 7, WRONG_BLOCK_SUM = 8, WRONG_SIZE = 9;
        private static final int WRONG_SUM = 10, WRONG_ID = 11, TOO_MANY = 12, LONG_COUNT = 13, WRONG_COUNT = 14;
        private static final int WRONG_CHUNK = 15;
        private final Bytes input;
        private final Bytes words;
        private final int[] settings;
        private Bytes to;
        private Blocks blocks;
        private int broken;
        private int brokenAt;
        // The next byte that is read, and the end of what is opened: of the input, or of a block or chunk in it.
        private int at;
        private int end;
        // The block that is opened now: where it begins in what came, and what is counted of it.
        private int begin;
        private int copies;
        private int literals;
        private int parts;
        // The frame that is opened now: where it begins in what came, and what its head tells.
        private int frameBegin;
        private int flags;
        private int width;
        private long size;

        Opener(Bytes input, Bytes words, int[] settings) {
            this.input = input;
            this.words = words;
            this.settings = settings;
        }

        int brokenRule() {
            return broken;
        }

        int brokenPlace() {
            return brokenAt;
        }

        void start(Bytes toBytes, Blocks toBlocks) {
            to = toBytes;
            blocks = toBlocks;
            to.keep(0);
            blocks.clear();
            broken = 0;
            at = 0;
            end = input.size();
        }

        boolean openWholeSequences() {
            if (!openSequences(0)) {
                return false;
            }
            addPackedBlock(0);
            return true;
        }

        boolean openWholeElements() {
            if (!openElements()) {
                return false;
            }
            addPackedBlock(0);
            return true;
        }

        private void addPackedBlock(int from) {
            blocks.addPacked(from, at - from, to.size() - begin, copies, literals, parts);
        }

        private boolean breaks(int rule, int place) {
            broken = rule;
            brokenAt = place;
            return false;
        }

        private boolean lacks(int bytes) {
            return end - at < bytes;
        }

        private boolean isOver(long more) {
            return to.size() + more > MOST_OUT;
        }

        private void beginBlock() {
            begin = to.size();
            copies = 0;
            literals = 0;
            parts = 0;
        }

        /** Sequences that lean on what came from a lowest place on, and on the dictionary before it. */
        private boolean openSequences(int lowest) {
            beginBlock();
            int lastCopy = -1;
            for (int steps = 0; steps < MOST_INPUT && at < end; steps++) {
                int place = at;
                int token = input.at(place);
                at++;
                int count = withAdded(token / 16);
                if (count < 0 || lacks(count)) {
                    return breaks(LACKING, end);
                }
                if (isOver(count)) {
                    return breaks(TOO_MANY, place);
                }
                to.addRange(input, at, count);
                at += count;
                literals += count;
                parts++;
                if (at == end) {
                    return endsWell(count, token % 16, lastCopy) || breaks(WRONG_END, place);
                }
                lastCopy = to.size();
                if (!openCopy(place, token % 16, lowest)) {
                    return false;
                }
            }
            return breaks(LACKING, end);
        }

        private boolean endsWell(int lastLiterals, int m, int lastCopy) {
            if (m != 0) {
                return false;
            }
            return lastCopy < 0 || lastLiterals >= END_LITERALS && to.size() - lastCopy >= END_OF_COPIES;
        }

        private boolean openCopy(int token, int m, int lowest) {
            if (lacks(2)) {
                return breaks(LACKING, end);
            }
            int offset = (int) input.number(at, 2);
            if (offset == 0 || offset > words.size() + to.size() - lowest) {
                return breaks(WRONG_OFFSET, at);
            }
            at += 2;
            int count = withAdded(m);
            if (count < 0) {
                return breaks(LACKING, end);
            }
            if (isOver(count + LEAST_COPY)) {
                return breaks(TOO_MANY, token);
            }
            copy(offset, count + LEAST_COPY, lowest);
            return true;
        }

        private void copy(int offset, int n, int lowest) {
            int ofWords = Math.max(0, offset - (to.size() - lowest));
            int first = Math.min(ofWords, n);
            to.addRange(words, words.size() - ofWords, first);
            to.addAgain(offset, n - first);
            copies++;
        }

        /** A number of a token with the bytes that are added to it, or -1 if they lack. */
        private int withAdded(int number) {
            int v = number;
            int latest = number == 15 ? 255 : 0;
            while (latest == 255 && at < end) {
                latest = input.at(at);
                v += latest;
                at++;
            }
            return latest == 255 ? -1 : v;
        }

        boolean openFrames() {
            for (int steps = 0; steps < MOST_INPUT && at < end; steps++) {
                if (lacks(4)) {
                    return breaks(LACKING, end);
                }
                long mark = input.number(at, 4);
                boolean piece = mark >= PIECE_MARK && mark < PIECE_MARK + 16;
                if (!piece && mark != FRAME_MARK) {
                    return breaks(WRONG_MARK, at);
                }
                at += 4;
                if (!(piece ? passPiece() : openFrame())) {
                    return false;
                }
            }
            return true;
        }

        private boolean passPiece() {
            long count = input.number(at, 4);
            if (lacks(4) || count > end - at - 4) {
                return breaks(LACKING, end);
            }
            at += 4 + (int) count;
            return true;
        }

        private boolean openFrame() {
            frameBegin = to.size();
            if (!openFrameHead()) {
                return false;
            }
            for (int steps = 0; steps < MOST_INPUT && !lacks(4); steps++) {
                if (input.number(at, 4) == 0) {
                    return openFrameEnd();
                }
                if (!openFrameBlock()) {
                    return false;
                }
            }
            return breaks(LACKING, end);
        }

        private boolean isFlag(int flag) {
            return (flags & flag) != 0;
        }

        private boolean openFrameHead() {
            if (lacks(1)) {
                return breaks(LACKING, end);
            }
            flags = input.at(at);
            if ((flags & FLAGS_OF_VERSION) != FLAG_VERSION || isFlag(FLAG_UNKNOWN)) {
                return breaks(WRONG_HEAD, at);
            }
            if (lacks(2)) {
                return breaks(LACKING, end);
            }
            width = input.at(at + 1) / 16;
            if (width < LEAST_WIDTH || width > MOST_WIDTH || input.at(at + 1) % 16 != 0) {
                return breaks(WRONG_HEAD, at + 1);
            }
            return openFrameTold();
        }

        /** What the head tells behind its first two bytes, and its sum. */
        private boolean openFrameTold() {
            int head = at;
            int idPlace = head + 2 + (isFlag(FLAG_SIZE) ? 8 : 0);
            int sumPlace = idPlace + (isFlag(FLAG_ID) ? 4 : 0);
            if (sumPlace >= end) {
                return breaks(LACKING, end);
            }
            size = input.number(head + 2, 8);
            int headSum = Sums.sumOf(input, head, sumPlace - head) >>> 8 & 255;
            if (input.at(sumPlace) != headSum) {
                return breaks(WRONG_HEAD_SUM, sumPlace);
            }
            if (isFlag(FLAG_ID) && input.number32(idPlace) != settings[ID]) {
                return breaks(WRONG_ID, idPlace);
            }
            at = sumPlace + 1;
            return true;
        }

        private boolean openFrameBlock() {
            int head = at;
            long number = input.number(head, 4);
            int count = (int) (number % RAW_MARK);
            if (count > 1 << (8 + 2 * width)) {
                return breaks(LONG_BLOCK, head);
            }
            at += 4;
            int sumBytes = isFlag(FLAG_BLOCK_SUMS) ? 4 : 0;
            if (lacks(count + sumBytes)) {
                return breaks(LACKING, end);
            }
            int sumPlace = at + count;
            if (sumBytes > 0 && input.number32(sumPlace) != Sums.sumOf(input, at, count)) {
                return breaks(WRONG_BLOCK_SUM, sumPlace);
            }
            if (number >= RAW_MARK) {
                if (!openRaw(count, head)) {
                    return false;
                }
            } else {
                end = sumPlace;
                if (!openSequences(isFlag(FLAG_ALONE) ? to.size() : frameBegin)) {
                    return false;
                }
                end = input.size();
                addPackedBlock(head + 4);
            }
            at += sumBytes;
            return true;
        }

        private boolean openRaw(int count, int head) {
            if (isOver(count)) {
                return breaks(TOO_MANY, head);
            }
            blocks.addRaw(at, count);
            to.addRange(input, at, count);
            at += count;
            return true;
        }

        private boolean openFrameEnd() {
            int count = to.size() - frameBegin;
            if (isFlag(FLAG_SIZE) && size != count) {
                return breaks(WRONG_SIZE, at);
            }
            at += 4;
            if (!isFlag(FLAG_SUM)) {
                return true;
            }
            if (lacks(4)) {
                return breaks(LACKING, end);
            }
            if (input.number32(at) != Sums.sumOf(to, frameBegin, count)) {
                return breaks(WRONG_SUM, at);
            }
            at += 4;
            return true;
        }

        /** Elements behind how many bytes come of them. */
        private boolean openElements() {
            beginBlock();
            int first = at;
            long told = 0;
            int latest = 128;
            for (int digit = 0; digit < 5 && latest >= 128; digit++) {
                if (lacks(1)) {
                    return breaks(LACKING, end);
                }
                latest = input.at(at);
                told += (long) (latest % 128) << (7 * digit);
                at++;
            }
            if (latest >= 128 || told > NO_SIGN) {
                return breaks(LONG_COUNT, first);
            }
            if (isOver(told)) {
                return breaks(TOO_MANY, first);
            }
            int goal = begin + (int) told;
            for (int steps = 0; steps < MOST_INPUT && at < end; steps++) {
                if (!openElement(goal)) {
                    return false;
                }
            }
            return to.size() == goal || breaks(WRONG_COUNT, end);
        }

        private boolean openElement(int goal) {
            int place = at;
            int kind = input.at(place) % 4;
            int h = input.at(place) / 4;
            int numbers = kind == 3 ? 4 : kind;
            if (kind == 0 && h >= 60) {
                numbers = h - 59;
            }
            at++;
            if (lacks(numbers)) {
                return breaks(LACKING, end);
            }
            long number = input.number(at, numbers);
            at += numbers;
            parts++;
            if (kind == 0) {
                return openLiterals(place, 1 + (numbers == 0 ? h : number), goal);
            }
            if (kind == 1) {
                return openOffset(place, 4 + h % 8, 256 * (h / 8) + number, goal);
            }
            return openOffset(place, h + 1, number, goal);
        }

        private boolean openLiterals(int place, long count, int goal) {
            if (to.size() + count > goal) {
                return breaks(WRONG_COUNT, place);
            }
            if (count > end - at) {
                return breaks(LACKING, end);
            }
            to.addRange(input, at, (int) count);
            at += (int) count;
            literals += (int) count;
            return true;
        }

        private boolean openOffset(int place, int length, long offset, int goal) {
            if (to.size() + length > goal) {
                return breaks(WRONG_COUNT, place);
            }
            if (offset == 0 || offset > to.size() - begin) {
                return breaks(WRONG_OFFSET, place);
            }
            to.addAgain((int) offset, length);
            copies++;
            return true;
        }

        boolean openChunks() {
            if (lacks(1)) {
                return breaks(LACKING, end);
            }
            if (input.at(0) != KIND_FIRST) {
                return breaks(WRONG_MARK, 0);
            }
            for (int steps = 0; steps < MOST_INPUT && at < end; steps++) {
                if (!openChunk()) {
                    return false;
                }
            }
            return true;
        }

        private boolean openChunk() {
            int head = at;
            int kind = input.at(head);
            if (lacks(4)) {
                return breaks(LACKING, end);
            }
            int count = (int) input.number(head + 1, 3);
            boolean comes = kind == KIND_PACKED || kind == KIND_RAW;
            if (comes ? count < 4 : kind < KIND_PASSED) {
                return breaks(WRONG_CHUNK, head);
            }
            if (kind == KIND_FIRST && count != FIRST_CHUNK.length) {
                return breaks(WRONG_MARK, head);
            }
            at += 4;
            if (lacks(count)) {
                return breaks(LACKING, end);
            }
            if (kind == KIND_FIRST && !isFirstChunk()) {
                return breaks(WRONG_MARK, head);
            }
            if (comes) {
                return openChunkBytes(head, kind == KIND_RAW, count - 4);
            }
            at += count;
            return true;
        }

        private boolean isFirstChunk() {
            for (int i = 0; i < FIRST_CHUNK.length; i++) {
                if (input.at(at + i) != FIRST_CHUNK[i]) {
                    return false;
                }
            }
            return true;
        }

        private boolean openChunkBytes(int head, boolean raw, int count) {
            int crcPlace = at;
            int came = to.size();
            at += 4;
            if (raw) {
                if (!openRaw(count, head)) {
                    return false;
                }
            } else {
                end = at + count;
                if (!openElements()) {
                    return false;
                }
                end = input.size();
                addPackedBlock(crcPlace + 4);
            }
            if (input.number32(crcPlace) != Sums.maskedCrcOf(to, came, to.size() - came)) {
                return breaks(WRONG_BLOCK_SUM, crcPlace);
            }
            return true;
        }
    }
}
