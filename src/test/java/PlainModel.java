import java.util.ArrayList;
import java.util.List;
import java.util.zip.CRC32C;

/**
 * The document said again, slowly: lists, loops over everything and exceptions. The tests compare the class with it.
 */
final class PlainModel {
    static final int BAD = -1, NONE = -2, FULL = -3;

    /** A rule that is broken, and its place. */
    private static final class Broken extends RuntimeException {
        private static final long serialVersionUID = 1L;
        final int rule;
        final int place;

        Broken(int rule, int place) {
            this.rule = rule;
            this.place = place;
        }
    }

    /** A literal (length 0) or a copy of a row. */
    static final class Step {
        final int place;
        final int length;

        Step(int place, int length) {
            this.place = place;
            this.length = length;
        }
    }

    private List<Integer> input = new ArrayList<>();
    private List<Integer> out = new ArrayList<>();
    private List<Integer> words = new ArrayList<>();
    private List<int[]> blocks = new ArrayList<>();
    private final int[] settings = {4000, 0, 0, 0, 0, 0};
    private int rule;
    private int place = NONE;

    // ---- the face

    int feed(int... numbers) {
        if (input.size() + 20 > 4000) {
            return FULL;
        }
        for (int v : numbers) {
            for (int k = 3; k >= 0; k--) {
                input.add((v >> (8 * k)) & 255);
            }
        }
        return input.size();
    }

    int cut(int n) {
        if (n < 0 || n > input.size()) {
            return BAD;
        }
        int went = input.size() - n;
        input = new ArrayList<>(input.subList(0, n));
        return went;
    }

    int out(int i) {
        return i < 0 || i >= out.size() ? BAD : out.get(i);
    }

    int back() {
        if (out.size() > 4000) {
            return FULL;
        }
        input = new ArrayList<>(out);
        return input.size();
    }

    int dictionary() {
        if (input.size() > 1000) {
            return FULL;
        }
        words = input;
        input = new ArrayList<>();
        return words.size();
    }

    int set(int what, int v) {
        if (what < 0 || what > 5) {
            return BAD;
        }
        if (what == 0 ? v < 16 || v > 4000 : what < 5 && v != 0 && v != 1) {
            return BAD;
        }
        int was = settings[what];
        settings[what] = v;
        return was;
    }

    int pack(int form, int level) {
        if (form < 0 || form > 3 || level < 0 || level > 2) {
            return BAD;
        }
        out = new ArrayList<>();
        return packBehind(form, level);
    }

    int more(int form, int level) {
        if (form != 1 && form != 3 || level < 0 || level > 2) {
            return BAD;
        }
        return packBehind(form, level);
    }

    private int packBehind(int form, int level) {
        List<int[]> rows = new ArrayList<>();
        List<Integer> bytes = new ArrayList<>(out);
        if (form == 0) {
            int[] row = new int[7];
            bytes = sequences(words, input, level, row);
            row[1] = bytes.size();
            rows.add(row);
        } else if (form == 2) {
            int[] row = new int[7];
            bytes = elements(input, level, row);
            row[1] = bytes.size();
            rows.add(row);
        } else if (form == 1) {
            packFrame(bytes, rows, level);
        } else {
            packChunks(bytes, rows, level);
        }
        if (bytes.size() > 12000) {
            return FULL;
        }
        out = bytes;
        blocks = rows;
        input = new ArrayList<>();
        return out.size();
    }

    int skip(int form, int kind) {
        if (!(form == 1 && kind >= 80 && kind <= 95) && !(form == 3 && kind >= 128 && kind <= 254)) {
            return BAD;
        }
        List<Integer> bytes = new ArrayList<>(out);
        bytes.add(kind);
        if (form == 1) {
            bytes.addAll(List.of(42, 77, 24));
            addNumber(bytes, input.size(), 4);
        } else {
            addNumber(bytes, input.size(), 3);
        }
        bytes.addAll(input);
        if (bytes.size() > 12000) {
            return FULL;
        }
        out = bytes;
        input = new ArrayList<>();
        return out.size();
    }

    int open(int form) {
        if (form < 0 || form > 3) {
            return BAD;
        }
        List<Integer> came = new ArrayList<>();
        List<int[]> rows = new ArrayList<>();
        rule = 0;
        place = NONE;
        try {
            if (form == 0) {
                rows.add(openSequences(0, input.size(), came, 0));
            } else if (form == 1) {
                openFrames(came, rows);
            } else if (form == 2) {
                rows.add(openElements(0, input.size(), came));
            } else {
                openChunks(came, rows);
            }
            out = came;
            blocks = rows;
        } catch (Broken broken) {
            rule = broken.rule;
            place = broken.place;
        }
        input = new ArrayList<>();
        return rule == 0 ? out.size() : -10 - rule;
    }

    int rule(int what) {
        return what == 0 ? rule : what == 1 ? place : BAD;
    }

    int block(int i, int what) {
        if (what < 0 || what > 6) {
            return BAD;
        }
        return i < 0 || i >= blocks.size() ? NONE : blocks.get(i)[what];
    }

    int longest(int p) {
        if (p < 0 || p >= input.size()) {
            return BAD;
        }
        return longestMatch(joined(words, input), words.size() + p, input.size() - p);
    }

    int near(int p, int k) {
        if (p < 0 || p >= input.size() || k < 1 || p + (long) k > input.size()) {
            return BAD;
        }
        int offset = nearest(joined(words, input), words.size() + p, k);
        return offset == 0 ? NONE : offset;
    }

    long sum(int which) {
        switch (which) {
            case 0: return sumOf(out);
            case 1: return crc(out);
            case 2: return masked(out);
            default: return BAD;
        }
    }

    long bound(int form, int n) {
        if (form != 0 && form != 2 || n < 0) {
            return BAD;
        }
        long m = n;
        return form == 0 ? m + m / 255 + 16 : 32 + m + m / 6;
    }

    int told(int what) {
        switch (what) {
            case 0: return input.size();
            case 1: return out.size();
            case 2: return words.size();
            case 3: return blocks.size();
            default: return BAD;
        }
    }

    // ---- numbers and sums

    static void addNumber(List<Integer> bytes, long v, int n) {
        for (int k = 0; k < n; k++) {
            bytes.add((int) (v >> (8 * k)) & 255);
        }
    }

    private static List<Integer> joined(List<Integer> a, List<Integer> b) {
        List<Integer> both = new ArrayList<>(a);
        both.addAll(b);
        return both;
    }

    private static long turned(long x, int n) {
        return (x << n | x >> (32 - n)) & 0xFFFFFFFFL;
    }

    private static long times(long a, long b) {
        return a * b & 0xFFFFFFFFL;
    }

    private static long plus(long a, long b) {
        return a + b & 0xFFFFFFFFL;
    }

    private static long number(List<Integer> bytes, int from, int n) {
        long v = 0;
        for (int k = n - 1; k >= 0; k--) {
            v = v * 256 + bytes.get(from + k);
        }
        return v;
    }

    static long sumOf(List<Integer> bytes) {
        final long a = 2654435761L, b = 2246822519L, c = 3266489917L, d = 668265263L, e = 374761393L;
        int n = bytes.size();
        int i = 0;
        long h = e;
        if (n >= 16) {
            long[] v = {plus(a, b), b, 0, plus(0, -a)};
            for (; i + 16 <= n; i += 16) {
                for (int k = 0; k < 4; k++) {
                    v[k] = times(turned(plus(v[k], times(number(bytes, i + 4 * k, 4), b)), 13), a);
                }
            }
            h = plus(plus(turned(v[0], 1), turned(v[1], 7)), plus(turned(v[2], 12), turned(v[3], 18)));
        }
        h = plus(h, n);
        for (; i + 4 <= n; i += 4) {
            h = times(turned(plus(h, times(number(bytes, i, 4), c)), 17), d);
        }
        for (; i < n; i++) {
            h = times(turned(plus(h, times(bytes.get(i), e)), 11), a);
        }
        h = times(h ^ h >> 15, b);
        h = times(h ^ h >> 13, c);
        return h ^ h >> 16;
    }

    static long crc(List<Integer> bytes) {
        CRC32C crc = new CRC32C();
        for (int b : bytes) {
            crc.update(b);
        }
        return crc.getValue();
    }

    static long masked(List<Integer> bytes) {
        return plus(turned(crc(bytes), 17), 2726488792L);
    }

    // ---- matches: every place before is tried

    private static boolean stands(List<Integer> text, int from, int p, int k) {
        for (int i = 0; i < k; i++) {
            if (!text.get(from + i).equals(text.get(p + i))) {
                return false;
            }
        }
        return true;
    }

    static int nearest(List<Integer> text, int p, int k) {
        for (int from = p - 1; from >= 0; from--) {
            if (stands(text, from, p, k)) {
                return p - from;
            }
        }
        return 0;
    }

    static int longestMatch(List<Integer> text, int p, int limit) {
        int most = 0;
        for (int from = 0; from < p; from++) {
            int k = 0;
            while (k < limit && text.get(from + k).equals(text.get(p + k))) {
                k++;
            }
            most = Math.max(most, k);
        }
        return most;
    }

    // ---- packing

    /** How long a copy at p may be. */
    static int limit(boolean ofSequences, int p, int n) {
        if (!ofSequences) {
            return n - p;
        }
        return p > n - 12 ? 0 : Math.max(0, n - 5 - p);
    }

    private static int longestAt(boolean ofSequences, List<Integer> text, int base, int p) {
        int n = text.size() - base;
        if (p >= n) {
            return 0;
        }
        int k = longestMatch(text, base + p, limit(ofSequences, p, n));
        return k < 4 ? 0 : k;
    }

    static List<Step> row(boolean ofSequences, List<Integer> text, int base, int level) {
        if (level == 2) {
            return bestRow(ofSequences, text, base);
        }
        int n = text.size() - base;
        List<Step> steps = new ArrayList<>();
        int p = 0;
        while (p < n) {
            int k = longestAt(ofSequences, text, base, p);
            if (k == 0 || level == 1 && longestAt(ofSequences, text, base, p + 1) > k) {
                p++;
                continue;
            }
            while (!ofSequences && k >= 68) {
                steps.add(new Step(p, 64));
                p += 64;
                k -= 64;
            }
            if (!ofSequences && k > 64) {
                steps.add(new Step(p, 60));
                p += 60;
                k -= 60;
            }
            steps.add(new Step(p, k));
            p += k;
        }
        return steps;
    }

    /** For each place the best row from there on: of all literals before a copy, and of all copies, the first best. */
    private static List<Step> bestRow(boolean ofSequences, List<Integer> text, int base) {
        int n = text.size() - base;
        long[] cost = new long[n + 1];
        int[] literals = new int[n + 1];
        int[] copy = new int[n + 1];
        int[][] bytesOfCopy = new int[n + 1][];
        for (int p = 0; p < n; p++) {
            int most = longestMatch(text, base + p, Math.min(ofSequences ? 4000 : 64, limit(ofSequences, p, n)));
            bytesOfCopy[p] = new int[most + 1];
            for (int k = 1; k <= most; k++) {
                bytesOfCopy[p][k] = bytesOfCopy(ofSequences, text, base + p, k);
            }
        }
        for (int p = n; p >= 0; p--) {
            cost[p] = Long.MAX_VALUE;
            for (int l = 0; p + l < n; l++) {
                for (int k = bytesOfCopy[p + l].length - 1; k >= (ofSequences ? 4 : 1); k--) {
                    long c = bytesOfLiterals(ofSequences, l) + bytesOfCopy[p + l][k] + cost[p + l + k];
                    if (c < cost[p]) {
                        cost[p] = c;
                        literals[p] = l;
                        copy[p] = k;
                    }
                }
            }
            long c = bytesOfLiterals(ofSequences, n - p);
            if (c < cost[p]) {
                cost[p] = c;
                literals[p] = n - p;
                copy[p] = 0;
            }
        }
        List<Step> steps = new ArrayList<>();
        int p = literals[0];
        int k = copy[0];
        while (k > 0) {
            steps.add(new Step(p, k));
            int next = p + k;
            p = next + literals[next];
            k = copy[next];
        }
        return steps;
    }

    /** With the token, in sequences. */
    private static int bytesOfLiterals(boolean ofSequences, int l) {
        if (ofSequences) {
            return 1 + l + (l < 15 ? 0 : (l - 15) / 255 + 1);
        }
        return l == 0 ? 0 : l <= 60 ? l + 1 : l <= 256 ? l + 2 : l + 3;
    }

    private static int bytesOfCopy(boolean ofSequences, List<Integer> text, int place, int k) {
        if (ofSequences) {
            return 2 + (k < 19 ? 0 : (k - 19) / 255 + 1);
        }
        return k >= 4 && k <= 11 && nearest(text, place, k) < 2048 ? 2 : 3;
    }

    private static void addLong(List<Integer> bytes, int v) {
        if (v >= 15) {
            int left = v - 15;
            while (left >= 255) {
                bytes.add(255);
                left -= 255;
            }
            bytes.add(left);
        }
    }

    static List<Integer> sequences(List<Integer> lean, List<Integer> block, int level, int[] told) {
        List<Integer> text = joined(lean, block);
        return writeSequences(text, lean.size(), row(true, text, lean.size(), level), told);
    }

    static List<Integer> writeSequences(List<Integer> text, int base, List<Step> steps, int[] told) {
        List<Integer> bytes = new ArrayList<>();
        int from = 0;
        for (Step step : steps) {
            int l = step.place - from;
            bytes.add(16 * Math.min(15, l) + Math.min(15, step.length - 4));
            addLong(bytes, l);
            bytes.addAll(text.subList(base + from, base + step.place));
            addNumber(bytes, nearest(text, base + step.place, step.length), 2);
            addLong(bytes, step.length - 4);
            told[5] += l;
            from = step.place + step.length;
        }
        int n = text.size() - base;
        bytes.add(16 * Math.min(15, n - from));
        addLong(bytes, n - from);
        bytes.addAll(text.subList(base + from, base + n));
        told[2] = n;
        told[4] = steps.size();
        told[5] += n - from;
        told[6] = steps.size() + 1;
        return bytes;
    }

    static List<Integer> elements(List<Integer> block, int level, int[] told) {
        return writeElements(block, row(false, block, 0, level), told);
    }

    static List<Integer> writeElements(List<Integer> block, List<Step> steps, int[] told) {
        List<Integer> bytes = new ArrayList<>();
        int n = block.size();
        int left = n;
        do {
            bytes.add(left % 128 + (left >= 128 ? 128 : 0));
            left /= 128;
        } while (left > 0);
        int from = 0;
        for (Step step : steps) {
            addLiterals(bytes, block.subList(from, step.place), told);
            int offset = nearest(block, step.place, step.length);
            if (step.length >= 4 && step.length <= 11 && offset < 2048) {
                bytes.add(1 + 4 * (step.length - 4) + 32 * (offset / 256));
                bytes.add(offset % 256);
            } else {
                bytes.add(2 + 4 * (step.length - 1));
                addNumber(bytes, offset, 2);
            }
            told[6]++;
            from = step.place + step.length;
        }
        addLiterals(bytes, block.subList(from, n), told);
        told[2] = n;
        told[4] = steps.size();
        return bytes;
    }

    private static void addLiterals(List<Integer> bytes, List<Integer> literals, int[] told) {
        int l = literals.size();
        if (l == 0) {
            return;
        }
        if (l <= 60) {
            bytes.add(4 * (l - 1));
        } else {
            bytes.add(l <= 256 ? 240 : 244);
            addNumber(bytes, l - 1, l <= 256 ? 1 : 2);
        }
        bytes.addAll(literals);
        told[5] += l;
        told[6]++;
    }

    private void packFrame(List<Integer> bytes, List<int[]> rows, int level) {
        bytes.addAll(List.of(4, 34, 77, 24));
        List<Integer> head = new ArrayList<>();
        head.add(64 + 32 * (1 - settings[1]) + 16 * settings[2] + 8 * settings[3] + 4 * settings[4]
                + (settings[5] == 0 ? 0 : 1));
        head.add(64);
        if (settings[3] == 1) {
            addNumber(head, input.size(), 8);
        }
        if (settings[5] != 0) {
            addNumber(head, settings[5], 4);
        }
        bytes.addAll(head);
        bytes.add((int) (sumOf(head) / 256 % 256));
        for (int from = 0; from < input.size(); from += settings[0]) {
            List<Integer> block = input.subList(from, Math.min(input.size(), from + settings[0]));
            List<Integer> lean = settings[1] == 0 ? words : joined(words, input.subList(0, from));
            int[] row = new int[7];
            List<Integer> packed = sequences(lean, block, level, row);
            boolean raw = packed.size() >= block.size();
            if (raw) {
                packed = block;
                row = new int[] {0, 0, block.size(), 1, 0, block.size(), 0};
            }
            addNumber(bytes, packed.size() + (raw ? 1L << 31 : 0), 4);
            row[0] = bytes.size();
            row[1] = packed.size();
            rows.add(row);
            bytes.addAll(packed);
            if (settings[2] == 1) {
                addNumber(bytes, sumOf(packed), 4);
            }
        }
        addNumber(bytes, 0, 4);
        if (settings[4] == 1) {
            addNumber(bytes, sumOf(input), 4);
        }
    }

    private void packChunks(List<Integer> bytes, List<int[]> rows, int level) {
        bytes.addAll(List.of(255, 6, 0, 0, 115, 78, 97, 80, 112, 89));
        for (int from = 0; from < input.size(); from += settings[0]) {
            List<Integer> block = input.subList(from, Math.min(input.size(), from + settings[0]));
            int[] row = new int[7];
            List<Integer> packed = elements(block, level, row);
            boolean raw = packed.size() >= block.size();
            if (raw) {
                packed = block;
                row = new int[] {0, 0, block.size(), 1, 0, block.size(), 0};
            }
            bytes.add(raw ? 1 : 0);
            addNumber(bytes, packed.size() + 4, 3);
            addNumber(bytes, masked(block), 4);
            row[0] = bytes.size();
            row[1] = packed.size();
            rows.add(row);
            bytes.addAll(packed);
        }
    }

    // ---- opening

    private int read(int at, int end) {
        if (at >= end) {
            throw new Broken(1, end);
        }
        return input.get(at);
    }

    private long readNumber(int at, int n, int end) {
        if (at + n > end) {
            throw new Broken(1, end);
        }
        return number(input, at, n);
    }

    /** Opens input[from, end); came from lowest on is leant on, with the dictionary before it. */
    private int[] openSequences(int from, int end, List<Integer> came, int lowest) {
        int[] told = {from, end - from, 0, 0, 0, 0, 0};
        int first = came.size();
        int lastCopy = -1;
        int at = from;
        while (true) {
            int token = at;
            int l = read(at, end) / 16;
            int m = read(at++, end) % 16;
            if (l == 15) {
                int b;
                do {
                    b = read(at++, end);
                    l += b;
                } while (b == 255);
            }
            if (at + l > end) {
                throw new Broken(1, end);
            }
            if (came.size() + l > 12000) {
                throw new Broken(12, token);
            }
            came.addAll(input.subList(at, at + l));
            at += l;
            told[5] += l;
            told[6]++;
            if (at == end) {
                if (m != 0 || lastCopy >= 0 && (l < 5 || came.size() - lastCopy < 12)) {
                    throw new Broken(3, token);
                }
                told[2] = came.size() - first;
                return told;
            }
            int offset = (int) readNumber(at, 2, end);
            if (offset == 0 || offset > came.size() - lowest + words.size()) {
                throw new Broken(2, at);
            }
            at += 2;
            if (m == 15) {
                int b;
                do {
                    b = read(at++, end);
                    m += b;
                } while (b == 255);
            }
            if (came.size() + m + 4 > 12000) {
                throw new Broken(12, token);
            }
            lastCopy = came.size();
            for (int i = 0; i < m + 4; i++) {
                int source = came.size() - offset;
                came.add(source >= lowest ? came.get(source) : words.get(words.size() - (lowest - source)));
            }
            told[4]++;
        }
    }

    private void openFrames(List<Integer> came, List<int[]> rows) {
        int end = input.size();
        int at = 0;
        while (at < end) {
            readNumber(at, 4, end);
            boolean rest = input.get(at + 2) == 77 && input.get(at + 3) == 24;
            if (rest && input.get(at + 1) == 42 && input.get(at) >= 80 && input.get(at) <= 95) {
                long n = readNumber(at + 4, 4, end);
                if (at + 8 + n > end) {
                    throw new Broken(1, end);
                }
                at += 8 + (int) n;
            } else if (rest && input.get(at + 1) == 34 && input.get(at) == 4) {
                at = openFrame(at + 4, end, came, rows);
            } else {
                throw new Broken(4, at);
            }
        }
    }

    private int openFrame(int flagsAt, int end, List<Integer> came, List<int[]> rows) {
        int flags = read(flagsAt, end);
        if (flags / 64 != 1 || flags / 2 % 2 == 1) {
            throw new Broken(5, flagsAt);
        }
        int w = read(flagsAt + 1, end);
        if (w != 64 && w != 80 && w != 96 && w != 112) {
            throw new Broken(5, flagsAt + 1);
        }
        boolean alone = flags / 32 % 2 == 1, sums = flags / 16 % 2 == 1, sized = flags / 8 % 2 == 1;
        boolean summed = flags / 4 % 2 == 1, named = flags % 2 == 1;
        int idAt = flagsAt + 2 + (sized ? 8 : 0);
        int at = idAt + (named ? 4 : 0);
        int headSum = read(at, end);
        if (headSum != sumOf(input.subList(flagsAt, at)) / 256 % 256) {
            throw new Broken(6, at);
        }
        if (named && (int) number(input, idAt, 4) != settings[5]) {
            throw new Broken(11, idAt);
        }
        at++;
        int first = came.size();
        while (true) {
            long n = readNumber(at, 4, end);
            if (n == 0) {
                break;
            }
            boolean raw = n >= 1L << 31;
            n -= raw ? 1L << 31 : 0;
            if (n > 1L << (8 + w / 8)) {
                throw new Broken(7, at);
            }
            int begin = at + 4;
            if (begin + n + (sums ? 4 : 0) > end) {
                throw new Broken(1, end);
            }
            int blockEnd = begin + (int) n;
            if (sums && number(input, blockEnd, 4) != sumOf(input.subList(begin, blockEnd))) {
                throw new Broken(8, blockEnd);
            }
            if (raw) {
                if (came.size() + n > 12000) {
                    throw new Broken(12, at);
                }
                came.addAll(input.subList(begin, blockEnd));
                rows.add(new int[] {begin, (int) n, (int) n, 1, 0, (int) n, 0});
            } else {
                rows.add(openSequences(begin, blockEnd, came, alone ? came.size() : first));
            }
            at = blockEnd + (sums ? 4 : 0);
        }
        List<Integer> all = came.subList(first, came.size());
        if (sized && (number(input, flagsAt + 2, 4) != all.size() || number(input, flagsAt + 6, 4) != 0)) {
            throw new Broken(9, at);
        }
        at += 4;
        if (summed) {
            if (readNumber(at, 4, end) != sumOf(all)) {
                throw new Broken(10, at);
            }
            at += 4;
        }
        return at;
    }

    private int[] openElements(int from, int end, List<Integer> came) {
        int[] told = {from, end - from, 0, 0, 0, 0, 0};
        int first = came.size();
        int at = from;
        long n = 0;
        for (int k = 0;; k++) {
            int b = read(at++, end);
            n += (b % 128L) << (7 * k);
            if (b < 128) {
                break;
            }
            if (k == 4) {
                throw new Broken(13, from);
            }
        }
        if (n >= 1L << 32) {
            throw new Broken(13, from);
        }
        if (came.size() + n > 12000) {
            throw new Broken(12, from);
        }
        while (at < end) {
            at = openElement(at, end, first, first + (int) n, came, told);
        }
        if (came.size() < first + n) {
            throw new Broken(14, end);
        }
        told[2] = (int) n;
        return told;
    }

    private int openElement(int element, int end, int first, int goal, List<Integer> came, int[] told) {
        int tag = input.get(element);
        int h = tag / 4;
        int at = element + 1;
        told[6]++;
        if (tag % 4 == 0) {
            int more = Math.max(0, h - 59);
            long l = more == 0 ? h + 1 : readNumber(at, more, end) + 1;
            at += more;
            if (came.size() + l > goal) {
                throw new Broken(14, element);
            }
            if (at + l > end) {
                throw new Broken(1, end);
            }
            came.addAll(input.subList(at, at + (int) l));
            told[5] += (int) l;
            return at + (int) l;
        }
        int length = h + 1;
        int more = tag % 4 == 3 ? 4 : tag % 4;
        long offset = readNumber(at, more, end);
        if (tag % 4 == 1) {
            length = 4 + h % 8;
            offset += 256 * (h / 8);
        }
        if (came.size() + length > goal) {
            throw new Broken(14, element);
        }
        if (offset == 0 || offset > came.size() - first) {
            throw new Broken(2, element);
        }
        for (int i = 0; i < length; i++) {
            came.add(came.get(came.size() - (int) offset));
        }
        told[4]++;
        return at + more;
    }

    private void openChunks(List<Integer> came, List<int[]> rows) {
        int end = input.size();
        int at = 0;
        do {
            int kind = read(at, end);
            if (at == 0 && kind != 255) {
                throw new Broken(4, 0);
            }
            int n = (int) readNumber(at + 1, 3, end);
            if (kind >= 2 && kind <= 127 || kind <= 1 && n < 4) {
                throw new Broken(15, at);
            }
            if (kind == 255 && n != 6) {
                throw new Broken(4, at);
            }
            int begin = at + 4;
            if (begin + n > end) {
                throw new Broken(1, end);
            }
            if (kind == 255 && !input.subList(begin, begin + 6).equals(List.of(115, 78, 97, 80, 112, 89))) {
                throw new Broken(4, at);
            }
            if (kind <= 1) {
                int first = came.size();
                if (kind == 0) {
                    rows.add(openElements(begin + 4, begin + n, came));
                } else {
                    if (came.size() + n - 4 > 12000) {
                        throw new Broken(12, at);
                    }
                    came.addAll(input.subList(begin + 4, begin + n));
                    rows.add(new int[] {begin + 4, n - 4, n - 4, 1, 0, n - 4, 0});
                }
                if (number(input, begin, 4) != masked(came.subList(first, came.size()))) {
                    throw new Broken(8, begin);
                }
            }
            at = begin + n;
        } while (at < end);
    }
}
