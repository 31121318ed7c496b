import java.util.ArrayList;
import java.util.List;
import java.util.Random;

/** Promise 8, level 2: small blocks are packed in every way there is, and the best row is chosen by the words. */
public final class RowTest {
    private static int wrong = 0;
    private static int rowsTried = 0;

    public static void main(String[] args) {
        for (int seed = 0; seed < 400; seed++) {
            Random random = Pair.random(seed);
            elements(someBytes(random, random.nextInt(11), 1 + random.nextInt(3)));
            sequences(someBytes(random, random.nextInt(6), 2), someBytes(random, random.nextInt(22), 1 + random.nextInt(3)));
        }
        System.out.println(rowsTried + " rows tried, " + wrong + " blocks are not as due");
        if (wrong != 0) {
            System.exit(1);
        }
    }

    private static List<Integer> someBytes(Random random, int n, int symbols) {
        List<Integer> bytes = new ArrayList<>();
        for (int i = 0; i < n; i++) {
            bytes.add(97 + random.nextInt(symbols));
        }
        return bytes;
    }

    private static void elements(List<Integer> block) {
        List<List<PlainModel.Step>> rows = new ArrayList<>();
        addRows(rows, new ArrayList<>(), false, block, 0, 0);
        List<Integer> best = null;
        List<PlainModel.Step> bestRow = null;
        for (List<PlainModel.Step> row : rows) {
            List<Integer> bytes = PlainModel.writeElements(block, row, new int[7]);
            if (best == null || bytes.size() < best.size()
                    || bytes.size() == best.size() && comesFirst(row, bestRow, block.size())) {
                best = bytes;
                bestRow = row;
            }
        }
        compare("elements of " + block, packed(List.of(), block, 2), best);
    }

    private static void sequences(List<Integer> words, List<Integer> block) {
        List<Integer> text = new ArrayList<>(words);
        text.addAll(block);
        List<List<PlainModel.Step>> rows = new ArrayList<>();
        addRows(rows, new ArrayList<>(), true, text, words.size(), 0);
        List<Integer> best = null;
        List<PlainModel.Step> bestRow = null;
        for (List<PlainModel.Step> row : rows) {
            List<Integer> bytes = PlainModel.writeSequences(text, words.size(), row, new int[7]);
            if (best == null || bytes.size() < best.size()
                    || bytes.size() == best.size() && comesFirst(row, bestRow, block.size())) {
                best = bytes;
                bestRow = row;
            }
        }
        compare("sequences of " + words + block, packed(words, block, 0), best);
    }

    private static void addRows(List<List<PlainModel.Step>> rows, List<PlainModel.Step> begun, boolean ofSequences,
            List<Integer> text, int base, int p) {
        int n = text.size() - base;
        if (p == n) {
            rows.add(new ArrayList<>(begun));
            rowsTried++;
            return;
        }
        addRows(rows, begun, ofSequences, text, base, p + 1);
        int most = PlainModel.longestMatch(text, base + p, PlainModel.limit(ofSequences, p, n));
        for (int k = ofSequences ? 4 : 1; k <= most; k++) {
            begun.add(new PlainModel.Step(p, k));
            addRows(rows, begun, ofSequences, text, base, p + k);
            begun.remove(begun.size() - 1);
        }
    }

    /** From the first on: the fewest literals before a copy or the end, then the longest copy. */
    private static boolean comesFirst(List<PlainModel.Step> a, List<PlainModel.Step> b, int n) {
        int from = 0;
        for (int i = 0;; i++) {
            int placeA = i < a.size() ? a.get(i).place : n;
            int placeB = i < b.size() ? b.get(i).place : n;
            if (placeA != placeB || placeA == n) {
                return placeA - from < placeB - from;
            }
            if (a.get(i).length != b.get(i).length) {
                return a.get(i).length > b.get(i).length;
            }
            from = placeA + a.get(i).length;
        }
    }

    private static List<Integer> packed(List<Integer> words, List<Integer> block, int form) {
        FastBlocks x = new FastBlocks();
        feedAll(x, words);
        x.dictionary();
        feedAll(x, block);
        int n = x.pack(form, 2);
        List<Integer> bytes = new ArrayList<>();
        for (int i = 0; i < n; i++) {
            bytes.add(x.out(i));
        }
        return bytes;
    }

    private static void feedAll(FastBlocks x, List<Integer> bytes) {
        for (int from = 0; from < bytes.size(); from += 20) {
            int[] v = new int[5];
            for (int i = 0; i < 20; i++) {
                v[i / 4] = v[i / 4] << 8 | (from + i < bytes.size() ? bytes.get(from + i) : 0);
            }
            x.feed(v[0], v[1], v[2], v[3], v[4]);
        }
        x.cut(bytes.size());
    }

    private static void compare(String what, List<Integer> got, List<Integer> want) {
        if (!got.equals(want)) {
            wrong++;
            System.out.println(what + ": packed as " + got + ", due is " + want);
        }
    }
}
