import java.util.ArrayList;
import java.util.Arrays;
import java.util.List;

/** What the tests that are said by hand share: the asking, and rows of bytes. */
abstract class Due {
    static final int BAD = FastBlocks.BAD, NONE = FastBlocks.NONE, FULL = FastBlocks.FULL;
    private static int wrong = 0;
    private static int asked = 0;

    static void due(String what, long got, long want) {
        asked++;
        if (got != want) {
            wrong++;
            System.out.println(what + " answered " + got + ", due is " + want);
        }
    }

    // ---- bytes

    static int[] bytes(Object... parts) {
        List<Integer> all = new ArrayList<>();
        for (Object part : parts) {
            if (part instanceof int[]) {
                for (int b : (int[]) part) {
                    all.add(b);
                }
            } else if (part instanceof String) {
                for (char c : ((String) part).toCharArray()) {
                    all.add((int) c);
                }
            } else {
                all.add((Integer) part);
            }
        }
        return all.stream().mapToInt(i -> i).toArray();
    }

    static int[] times(int n, int b) {
        int[] some = new int[n];
        Arrays.fill(some, b);
        return some;
    }

    /** So many bytes of which no four stand twice: a count, a byte that is never 255, and 255. */
    static int[] unlike(int n) {
        int[] some = new int[n];
        for (int i = 0; i < n; i++) {
            int count = i / 4;
            some[i] = new int[] {count % 256, count / 256, count * 7 % 251, 255}[i % 4];
        }
        return some;
    }

    static int[] number(long v, int n) {
        int[] some = new int[n];
        for (int i = 0; i < n; i++) {
            some[i] = (int) (v >> (8 * i)) & 255;
        }
        return some;
    }

    static List<Integer> list(int[] some) {
        List<Integer> all = new ArrayList<>();
        for (int b : some) {
            all.add(b);
        }
        return all;
    }

    static int[] sumOf(int[] some) {
        return number(PlainModel.sumOf(list(some)), 4);
    }

    static int[] crcOf(int[] some) {
        return number(PlainModel.masked(list(some)), 4);
    }

    static int[] head(int flags, int w, Object... told) {
        int[] some = bytes(flags, w, bytes(told));
        return bytes(4, 34, 77, 24, some, sumOf(some)[1]);
    }

    static void end() {
        System.out.println(asked + " answers asked, " + wrong + " are not as due");
        if (wrong != 0) {
            System.exit(1);
        }
    }
}
