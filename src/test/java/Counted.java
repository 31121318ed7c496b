import java.util.List;

/** An object of the class whose calls are counted: the document promises nothing behind the 512th. */
final class Counted {
    static final int MOST_CALLS = 512;
    private final FastBlocks x = new FastBlocks();
    private int calls = 0;

    private FastBlocks called() {
        calls++;
        if (calls > MOST_CALLS) {
            Due.due("the calls of one object", calls, MOST_CALLS);
        }
        return x;
    }

    int calls() {
        return calls;
    }

    int feed(int a, int b, int c, int d, int e) {
        return called().feed(a, b, c, d, e);
    }

    int cut(int n) {
        return called().cut(n);
    }

    int out(int i) {
        return called().out(i);
    }

    int back() {
        return called().back();
    }

    int dictionary() {
        return called().dictionary();
    }

    int set(int what, int v) {
        return called().set(what, v);
    }

    int pack(int form, int level) {
        return called().pack(form, level);
    }

    int more(int form, int level) {
        return called().more(form, level);
    }

    int skip(int form, int kind) {
        return called().skip(form, kind);
    }

    int open(int form) {
        return called().open(form);
    }

    int rule(int what) {
        return called().rule(what);
    }

    int block(int i, int what) {
        return called().block(i, what);
    }

    int longest(int p) {
        return called().longest(p);
    }

    int near(int p, int k) {
        return called().near(p, k);
    }

    long sum(int which) {
        return called().sum(which);
    }

    long bound(int form, int n) {
        return called().bound(form, n);
    }

    int told(int what) {
        return called().told(what);
    }

    /** Any bytes become the input. */
    Counted load(int[] some) {
        cut(0);
        for (int from = 0; from < some.length; from += 20) {
            int[] v = new int[5];
            for (int i = 0; i < 20; i++) {
                v[i / 4] = v[i / 4] << 8 | (from + i < some.length ? some[from + i] : 0);
            }
            feed(v[0], v[1], v[2], v[3], v[4]);
        }
        cut(some.length);
        return this;
    }

    Counted loadWords(int[] words) {
        load(words).dictionary();
        return this;
    }

    /** The out is as due: a short one byte for byte, a long one by its sums, for which few calls do. */
    void holds(String what, int[] want) {
        Due.due(what + ": how many", told(1), want.length);
        if (want.length <= 64) {
            for (int i = 0; i < want.length; i++) {
                Due.due(what + ": byte " + i, out(i), want[i]);
            }
            return;
        }
        List<Integer> all = Due.list(want);
        Due.due(what + ": the sum", sum(0), PlainModel.sumOf(all));
        Due.due(what + ": the CRC", sum(1), PlainModel.crc(all));
    }
}
