import java.util.ArrayList;
import java.util.Arrays;
import java.util.List;
import java.util.Random;

/**
 * Promises 11 to 13: rows of frames, pieces and chunks that are built at random, with right sums and now and then a
 * fault, opened by the class and by the plain model. (In bytes that are only damaged a sum is wrong before all else.)
 */
public final class BuiltTest extends Due {
    private static final int RUNS = 6000;
    // So many bytes that a few more are more than there is room for.
    private static final int ALMOST_ALL = 11920;
    // How often each rule was the broken one; 0: none was.
    private static final int[] met = new int[16];

    private final Random random;
    private final Pair pair;
    // One in so many choices is a wrong one, and some runs make far more bytes than there is room for.
    private final int faults;
    private final boolean great;
    private int[] words = {};
    private int id;

    private BuiltTest(int seed) {
        random = Pair.random(700000 + seed);
        pair = new Pair("built " + seed);
        faults = random.nextInt(3) == 0 ? 1000000 : 20 + random.nextInt(60);
        great = random.nextInt(8) == 0;
    }

    public static void main(String[] args) {
        for (int seed = 0; seed < RUNS; seed++) {
            new BuiltTest(seed).run();
        }
        for (int rule = 0; rule <= 15; rule++) {
            due("rule " + rule + " was met ten times or more", met[rule] >= 10 ? 1 : 0, 1);
        }
        due("the answers that differ from the plain model's", Pair.wrong, 0);
        System.out.println(Pair.asked + " answers compared; each rule was broken so often: " + Arrays.toString(met));
        end();
    }

    private void run() {
        if (random.nextBoolean()) {
            words = someLiterals(1 + random.nextInt(40));
            pair.load(words);
            pair.dictionary();
        }
        id = random.nextBoolean() ? random.nextInt() : 0;
        pair.set(5, id);
        for (int round = 0; round < 4; round++) {
            int form = random.nextInt(4);
            int[] built = cutShort(built(form));
            if (built.length <= 4000) {
                pair.load(built);
                pair.open(form);
                met[pair.rule(0)]++;
                pair.rule(1);
                askBlocks();
            }
        }
        pair.askAll();
    }

    private void askBlocks() {
        for (int i = 0; i <= pair.told(3); i++) {
            for (int what = 0; what <= 6; what++) {
                pair.block(i, what);
            }
        }
    }

    private int[] built(int form) {
        switch (form) {
            case 0: return sequences(list(words));
            case 1: return frames();
            case 2: return elements(new ArrayList<>());
            default: return chunks();
        }
    }

    private boolean fault() {
        return random.nextInt(faults) == 0;
    }

    /** At times the last bytes lack, or others stand behind them. */
    private int[] cutShort(int[] built) {
        if (fault()) {
            return Arrays.copyOf(built, random.nextInt(built.length + 1));
        }
        return fault() ? bytes(built, someLiterals(1 + random.nextInt(6))) : built;
    }

    private int[] someLiterals(int n) {
        int[] some = new int[n];
        for (int i = 0; i < n; i++) {
            some[i] = random.nextInt(256);
        }
        return some;
    }

    private int[] wrongAtTimes(int[] sum) {
        if (fault()) {
            sum[random.nextInt(sum.length)] ^= 1 << random.nextInt(8);
        }
        return sum;
    }

    // ---- sequences

    private int someLength() {
        if (great && random.nextInt(3) == 0) {
            return random.nextBoolean() ? random.nextInt(6000) : ALMOST_ALL + random.nextInt(60);
        }
        return random.nextInt(4) == 0 ? 13 + random.nextInt(300) : random.nextInt(15);
    }

    private int someOffset(int there) {
        if (fault()) {
            return random.nextBoolean() ? 0 : there + 1;
        }
        return random.nextInt(3) == 0 ? there : 1 + random.nextInt(there);
    }

    private static int[] added(int number) {
        return number < 15 ? new int[0] : bytes(times((number - 15) / 255, 255), (number - 15) % 255);
    }

    /** A block that leans on what is given; what comes of it is added to that. */
    private int[] sequences(List<Integer> there) {
        int[] built = {};
        int copied = 0;
        for (int copies = random.nextInt(4); copies > 0; copies--) {
            int[] literals = someLiterals(Math.min(someLength(), 300) + (there.isEmpty() ? 1 : 0));
            there.addAll(list(literals));
            int m = someLength();
            int offset = someOffset(there.size());
            built = bytes(built, 16 * Math.min(15, literals.length) + Math.min(15, m), added(literals.length), literals,
                    number(offset, 2), added(m));
            copied = m + 4;
            copyAgain(there, offset, copied);
        }
        int least = copied == 0 ? 0 : Math.max(5, 12 - copied);
        int[] last = someLiterals(fault() ? random.nextInt(12) : least + random.nextInt(random.nextBoolean() ? 3 : 20));
        there.addAll(list(last));
        return bytes(built, 16 * Math.min(15, last.length) + (fault() ? 1 + random.nextInt(15) : 0), added(last.length), last);
    }

    private static void copyAgain(List<Integer> there, int offset, int n) {
        for (int i = 0; i < n && offset > 0 && offset <= there.size(); i++) {
            there.add(there.get(there.size() - offset));
        }
    }

    // ---- frames and pieces

    private int[] frames() {
        int[] built = {};
        for (int n = random.nextInt(4); n > 0; n--) {
            built = bytes(built, random.nextInt(4) == 0 ? piece() : frame());
        }
        return built;
    }

    private int[] piece() {
        int[] some = someLiterals(random.nextInt(20));
        int kind = fault() ? 79 + random.nextInt(18) : 80 + random.nextInt(16);
        return bytes(kind, 42, 77, fault() ? 23 : 24, number(some.length + (fault() ? 1 : 0), 4), some);
    }

    private int[] frame() {
        int flags = 64 + (random.nextInt(64) & 61);
        List<Integer> came = new ArrayList<>();
        int[] blocks = {};
        for (int n = random.nextInt(great ? 8 : 4); n > 0; n--) {
            blocks = bytes(blocks, frameBlock(flags, came));
        }
        int[] sum = sumOf(came.stream().mapToInt(i -> i).toArray());
        return bytes(frameHead(flags, came.size()), blocks, fault() ? number(random.nextInt(), 4) : number(0, 4),
                (flags & 4) != 0 ? wrongAtTimes(sum) : new int[0]);
    }

    private int[] frameHead(int flags, int size) {
        int toldFlags = fault() ? flags ^ (random.nextBoolean() ? 2 : 64 << random.nextInt(2)) : flags;
        int width = fault() ? random.nextInt(256) : 16 * (4 + random.nextInt(4));
        int[] toldSize = (flags & 8) != 0 ? wrongAtTimes(number(size, 8)) : new int[0];
        int[] toldId = (flags & 1) != 0 ? wrongAtTimes(number(id, 4)) : new int[0];
        int[] head = head(toldFlags, width, toldSize, toldId);
        if (fault()) {
            head[head.length - 1] ^= 1 << random.nextInt(8);
        }
        return head;
    }

    private int[] frameBlock(int flags, List<Integer> came) {
        boolean raw = random.nextInt(3) == 0;
        int[] block;
        if (raw) {
            block = someLiterals(random.nextInt(30));
            came.addAll(list(block));
        } else {
            List<Integer> there = list(words);
            if ((flags & 32) == 0) {
                there.addAll(came);
            }
            int before = there.size();
            block = sequences(there);
            came.addAll(there.subList(before, there.size()));
        }
        long count = block.length + (raw ? 1L << 31 : 0) + (fault() ? 1 + random.nextInt(2) * 65535 : 0);
        return bytes(number(count, 4), block, (flags & 16) != 0 ? wrongAtTimes(sumOf(block)) : new int[0]);
    }

    // ---- elements and chunks

    /** Elements behind how many come; what comes is added to what is given. */
    private int[] elements(List<Integer> there) {
        int[] built = {};
        for (int n = random.nextInt(6); n > 0; n--) {
            built = bytes(built, there.isEmpty() || random.nextBoolean() ? literalElement(there) : copyElement(there));
        }
        if (great && !there.isEmpty() && random.nextInt(3) == 0) {
            built = bytes(built, manyCopies(there));
        }
        long told = there.size();
        if (fault()) {
            told = random.nextBoolean() ? 1L << (28 + random.nextInt(7)) : Math.max(0, told + random.nextInt(3) - 1);
        } else if (great && random.nextBoolean()) {
            told += random.nextInt(14000);
        }
        return bytes(digits(told), built);
    }

    private int[] digits(long number) {
        int[] some = {};
        long left = number;
        for (; left >= 128; left /= 128) {
            some = bytes(some, 128 + (int) (left % 128));
        }
        // A number may have digits 0 behind it.
        int zeros = random.nextInt(8) == 0 ? random.nextInt(3) : 0;
        if (zeros == 0) {
            return bytes(some, (int) left);
        }
        return bytes(some, 128 + (int) left, times(zeros - 1, 128), 0);
    }

    private int[] literalElement(List<Integer> there) {
        int[] some = someLiterals(1 + (random.nextInt(4) == 0 ? random.nextInt(300) : random.nextInt(20)));
        there.addAll(list(some));
        int told = some.length - 1 + (fault() ? random.nextInt(3) : 0);
        if (told < 60 && random.nextInt(4) != 0) {
            return bytes(4 * told, some);
        }
        int numbers = told < 256 ? 1 + random.nextInt(4) : 2 + random.nextInt(3);
        return bytes(4 * (59 + numbers), number(told, numbers), some);
    }

    private int[] copyElement(List<Integer> there) {
        int offset = someOffset(there.size());
        int kind = offset < 2048 ? 1 + random.nextInt(3) : 2 + random.nextInt(2);
        int length = kind == 1 ? 4 + random.nextInt(8) : 1 + random.nextInt(64);
        copyAgain(there, offset, length);
        if (kind == 1) {
            return bytes(32 * (offset / 256) + 4 * (length - 4) + 1, offset % 256);
        }
        return bytes(4 * (length - 1) + kind, number(offset, kind == 2 ? 2 : 4));
    }

    private int[] manyCopies(List<Integer> there) {
        int[] built = {};
        while (there.size() < ALMOST_ALL + random.nextInt(60)) {
            copyAgain(there, 1, 64);
            built = bytes(built, 4 * 63 + 2, number(1, 2));
        }
        return built;
    }

    private int[] chunks() {
        int[] built = chunk(255);
        for (int n = random.nextInt(great ? 10 : 5); n > 0; n--) {
            int of = random.nextInt(10);
            built = bytes(built, chunk(of < 5 ? 0 : of < 7 ? 1 : of < 9 ? 128 + random.nextInt(127) : 255));
        }
        return built;
    }

    private int[] chunk(int kind) {
        int[] some;
        if (kind == 255) {
            some = fault() ? bytes("sNaPpZ") : bytes("sNaPpY");
        } else if (kind == 0) {
            List<Integer> came = new ArrayList<>();
            int[] built = elements(came);
            some = bytes(wrongAtTimes(crcOf(came.stream().mapToInt(i -> i).toArray())), built);
        } else {
            int[] came = someLiterals(random.nextInt(30));
            some = kind == 1 ? bytes(wrongAtTimes(crcOf(came)), came) : came;
        }
        int count = fault() ? random.nextInt(8) : some.length + (fault() ? 1 : 0);
        return bytes(fault() ? random.nextInt(256) : kind, number(count, 3), some);
    }
}
