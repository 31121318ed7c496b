import java.util.Random;

/** The class and the plain model, called alike; every answer that differs is printed and counted. */
final class Pair {
    static int wrong = 0;
    static long asked = 0;

    private final String name;
    private final FastBlocks real = new FastBlocks();
    private final PlainModel plain = new PlainModel();
    // Only the calls since the object was made are told, and only when one went wrong.
    private final StringBuilder calls = new StringBuilder();

    Pair(String name) {
        this.name = name;
    }

    private long same(String call, long got, long want) {
        asked++;
        if (calls.length() < 20000) {
            calls.append(call).append(' ');
        }
        if (got != want) {
            wrong++;
            if (wrong <= 10) {
                System.out.println(name + ": " + call + " answered " + got + ", due is " + want + "; calls: " + calls);
            }
        }
        return got;
    }

    int feed(int a, int b, int c, int d, int e) {
        return (int) same("feed(" + a + ", " + b + ", " + c + ", " + d + ", " + e + ")",
                real.feed(a, b, c, d, e), plain.feed(a, b, c, d, e));
    }

    int cut(int n) {
        return (int) same("cut(" + n + ")", real.cut(n), plain.cut(n));
    }

    int out(int i) {
        return (int) same("out(" + i + ")", real.out(i), plain.out(i));
    }

    int back() {
        return (int) same("back()", real.back(), plain.back());
    }

    int dictionary() {
        return (int) same("dictionary()", real.dictionary(), plain.dictionary());
    }

    int set(int what, int v) {
        return (int) same("set(" + what + ", " + v + ")", real.set(what, v), plain.set(what, v));
    }

    int pack(int form, int level) {
        return (int) same("pack(" + form + ", " + level + ")", real.pack(form, level), plain.pack(form, level));
    }

    int more(int form, int level) {
        return (int) same("more(" + form + ", " + level + ")", real.more(form, level), plain.more(form, level));
    }

    int skip(int form, int kind) {
        return (int) same("skip(" + form + ", " + kind + ")", real.skip(form, kind), plain.skip(form, kind));
    }

    int open(int form) {
        return (int) same("open(" + form + ")", real.open(form), plain.open(form));
    }

    int rule(int what) {
        return (int) same("rule(" + what + ")", real.rule(what), plain.rule(what));
    }

    int block(int i, int what) {
        return (int) same("block(" + i + ", " + what + ")", real.block(i, what), plain.block(i, what));
    }

    int longest(int p) {
        return (int) same("longest(" + p + ")", real.longest(p), plain.longest(p));
    }

    int near(int p, int k) {
        return (int) same("near(" + p + ", " + k + ")", real.near(p, k), plain.near(p, k));
    }

    long sum(int which) {
        return same("sum(" + which + ")", real.sum(which), plain.sum(which));
    }

    long bound(int form, int n) {
        return same("bound(" + form + ", " + n + ")", real.bound(form, n), plain.bound(form, n));
    }

    int told(int what) {
        return (int) same("told(" + what + ")", real.told(what), plain.told(what));
    }

    /** Any bytes become the input. */
    void load(int[] bytes) {
        cut(0);
        for (int from = 0; from < bytes.length; from += 20) {
            int[] v = new int[5];
            for (int i = 0; i < 20; i++) {
                v[i / 4] = v[i / 4] << 8 | (from + i < bytes.length ? bytes[from + i] & 255 : 0);
            }
            feed(v[0], v[1], v[2], v[3], v[4]);
        }
        cut(bytes.length);
    }

    int[] outBytes() {
        int[] bytes = new int[told(1)];
        for (int i = 0; i < bytes.length; i++) {
            bytes[i] = out(i);
        }
        return bytes;
    }

    /** Everything that can be asked without a change. */
    void askAll() {
        for (int i = -1; i <= 4; i++) {
            told(i);
        }
        for (int i = -1; i <= 3; i++) {
            sum(i);
        }
        rule(0);
        rule(1);
        for (int i = -1; i <= told(3); i++) {
            for (int what = -1; what <= 7; what++) {
                block(i, what);
            }
        }
        outBytes();
        out(-1);
        out(told(1));
    }

    /** Seeds side by side would draw nearly the same first numbers, so they are spread. */
    static Random random(long seed) {
        return new Random(seed * 0x9E3779B97F4A7C15L);
    }

    /** Bytes with more or less to copy in them. */
    static int[] someBytes(Random random, int n) {
        int[] bytes = new int[n];
        int kind = random.nextInt(5);
        int symbols = kind == 0 ? 2 : kind == 1 ? 3 + random.nextInt(4) : kind == 2 ? 256 : 26;
        for (int i = 0; i < n;) {
            if (kind >= 2 && i > 0 && random.nextInt(kind == 4 ? 4 : 12) == 0) {
                int offset = 1 + random.nextInt(Math.min(i, random.nextBoolean() ? 20 : 4000));
                int length = 1 + random.nextInt(random.nextInt(6) == 0 ? 300 : 12);
                for (int k = 0; k < length && i < n; k++, i++) {
                    bytes[i] = bytes[i - offset];
                }
            } else {
                bytes[i++] = random.nextInt(symbols);
            }
        }
        return bytes;
    }
}
