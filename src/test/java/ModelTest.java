import java.util.Arrays;
import java.util.Random;

/** Random runs of calls on the class and on the plain model: promises 1 to 18, all forms and levels. */
public final class ModelTest {
    private static final int[] ODD = {Integer.MIN_VALUE, -1000, -4, -3, -2, -1, 4001, 65536, Integer.MAX_VALUE};

    public static void main(String[] args) {
        packAndOpen();
        openDamaged();
        openNoise();
        longBlocks();
        edgyBlocks();
        fullBlocks();
        anyCalls();
        System.out.println(Pair.asked + " answers compared, " + Pair.wrong + " are not as due");
        if (Pair.wrong != 0) {
            System.exit(1);
        }
    }

    private static void setAtRandom(Pair pair, Random random) {
        int[] sizes = {16, 17, 20, 33, 64, 100, 255, 4000};
        pair.set(0, sizes[random.nextInt(sizes.length)]);
        for (int what = 1; what <= 4; what++) {
            pair.set(what, random.nextInt(2));
        }
        pair.set(5, random.nextInt(3) == 0 ? random.nextInt() : 0);
        if (random.nextInt(2) == 0) {
            pair.load(Pair.someBytes(random, random.nextInt(60)));
            pair.dictionary();
        }
    }

    private static void packAndOpen() {
        for (int seed = 0; seed < 1500; seed++) {
            Random random = Pair.random(seed);
            Pair pair = new Pair("pack " + seed);
            setAtRandom(pair, random);
            int form = random.nextInt(4);
            int rounds = form % 2 == 0 ? 1 : 1 + random.nextInt(3);
            for (int round = 0; round < rounds; round++) {
                int[] bytes = Pair.someBytes(random, random.nextInt(random.nextInt(4) == 0 ? 250 : 70));
                pair.load(bytes);
                for (int i = 0; i < 3 && bytes.length > 0; i++) {
                    int p = random.nextInt(bytes.length);
                    int k = pair.longest(p);
                    pair.near(p, k);
                    pair.near(p, k + 1);
                    pair.near(p, 1);
                }
                if (round == 0) {
                    pair.pack(form, random.nextInt(3));
                } else {
                    pair.more(form, random.nextInt(3));
                }
                pair.askAll();
                if (form % 2 == 1 && random.nextInt(3) == 0) {
                    pair.load(Pair.someBytes(random, random.nextInt(30)));
                    pair.skip(form, form == 1 ? 80 + random.nextInt(16) : 128 + random.nextInt(127));
                    pair.askAll();
                }
            }
            pair.back();
            pair.open(form);
            pair.askAll();
        }
    }

    private static void openDamaged() {
        for (int seed = 0; seed < 1500; seed++) {
            Random random = Pair.random(5000 + seed);
            Pair pair = new Pair("damage " + seed);
            setAtRandom(pair, random);
            int form = random.nextInt(4);
            pair.load(Pair.someBytes(random, random.nextInt(90)));
            pair.pack(form, random.nextInt(3));
            if (form % 2 == 1 && random.nextInt(2) == 0) {
                pair.load(Pair.someBytes(random, random.nextInt(40)));
                pair.more(form, random.nextInt(3));
            }
            int[] bytes = pair.outBytes();
            for (int round = 0; round < 12; round++) {
                pair.load(damaged(bytes, random));
                pair.open(form);
                pair.rule(0);
                pair.rule(1);
                pair.told(1);
                pair.told(3);
                pair.block(0, 0);
                pair.block(0, 6);
            }
            if (random.nextInt(4) == 0) {
                pair.set(5, random.nextInt());
                pair.load(bytes);
                pair.open(form);
            }
            pair.askAll();
        }
    }

    private static int[] damaged(int[] bytes, Random random) {
        int[] some = bytes.clone();
        if (some.length == 0) {
            return some;
        }
        if (random.nextInt(3) == 0) {
            return Arrays.copyOf(some, random.nextInt(some.length));
        }
        if (random.nextInt(5) == 0) {
            return Arrays.copyOf(some, some.length + 1 + random.nextInt(5));
        }
        for (int i = 0; i <= random.nextInt(2); i++) {
            int at = random.nextInt(some.length);
            some[at] = random.nextBoolean() ? some[at] ^ 1 << random.nextInt(8) : random.nextInt(256);
        }
        return some;
    }

    private static void openNoise() {
        for (int seed = 0; seed < 3000; seed++) {
            Random random = Pair.random(20000 + seed);
            Pair pair = new Pair("noise " + seed);
            if (random.nextBoolean()) {
                pair.load(Pair.someBytes(random, 1 + random.nextInt(40)));
                pair.dictionary();
            }
            for (int round = 0; round < 12; round++) {
                int[] bytes = new int[random.nextInt(30)];
                int most = random.nextBoolean() ? 256 : 1 + random.nextInt(40);
                for (int i = 0; i < bytes.length; i++) {
                    bytes[i] = random.nextInt(6) == 0 ? 255 : random.nextInt(most);
                }
                pair.load(bytes);
                pair.open(random.nextBoolean() ? 0 : 2);
                pair.rule(0);
                pair.rule(1);
            }
            pair.askAll();
        }
    }

    /** Blocks in which literals and copies take one, two and more added bytes. */
    private static void longBlocks() {
        for (int seed = 0; seed < 60; seed++) {
            Random random = Pair.random(90000 + seed);
            Pair pair = new Pair("long " + seed);
            int n = 300 + random.nextInt(1200);
            int[] bytes = new int[n];
            int symbols = 2 + random.nextInt(255);
            for (int i = 0; i < n;) {
                int run = 1 + random.nextInt(random.nextBoolean() ? 30 : 600);
                int offset = i == 0 || random.nextBoolean() ? 0 : 1 + random.nextInt(i);
                for (int k = 0; k < run && i < n; k++, i++) {
                    bytes[i] = offset == 0 ? random.nextInt(symbols < 20 ? 256 : symbols) : bytes[i - offset];
                }
            }
            for (int form = 0; form <= 2; form += 2) {
                pair.load(bytes);
                pair.pack(form, seed % 3 == 0 ? seed / 3 % 2 : 2);
                pair.askAll();
                pair.back();
                pair.open(form);
                pair.askAll();
            }
        }
    }

    /** Literals and copies of just as many bytes as one more would make dearer, and some that overlap. */
    private static void edgyBlocks() {
        int[] edges = {4, 5, 11, 12, 14, 15, 16, 18, 19, 20, 59, 60, 61, 64, 65, 68, 255, 256, 257, 269, 270, 271, 273, 274,
            275, 525, 529};
        for (int seed = 0; seed < 90; seed++) {
            Random random = Pair.random(110000 + seed);
            int n = 300 + random.nextInt(700);
            int[] bytes = new int[n];
            int symbols = 8 + random.nextInt(60);
            for (int i = 0; i < n;) {
                int run = edges[random.nextInt(edges.length)] + random.nextInt(3) - 1;
                int offset = i < 20 || random.nextInt(3) == 0 ? 0 : 1 + random.nextInt(i);
                for (int k = 0; k < run && i < n; k++, i++) {
                    bytes[i] = offset == 0 ? random.nextInt(symbols) : bytes[i - offset];
                }
            }
            Pair pair = new Pair("edgy " + seed);
            for (int form = 0; form <= 2; form += 2) {
                pair.load(bytes);
                pair.pack(form, 2);
                pair.outBytes();
            }
        }
    }

    /** As many bytes as there is room for, with a dictionary. */
    private static void fullBlocks() {
        for (int seed = 0; seed < 6; seed++) {
            Random random = Pair.random(130000 + seed);
            Pair pair = new Pair("full " + seed);
            int[] words = new int[1000];
            for (int i = 0; i < 1000; i++) {
                words[i] = random.nextInt(256);
            }
            int[] bytes = new int[4000];
            for (int i = 0; i < 4000; i++) {
                bytes[i] = i % 100 < 60 - seed * 10 ? words[(i * 7 / 100 + i) % 1000] : random.nextInt(256);
            }
            pair.load(words);
            pair.dictionary();
            pair.load(bytes);
            pair.longest(3950);
            pair.longest(3900);
            pair.near(3900, 3);
            for (int form = 0; form <= 2; form += 2) {
                pair.load(bytes);
                pair.pack(form, seed % 3 == 0 ? 2 : seed % 3);
                pair.outBytes();
            }
        }
    }

    private static int someNumber(Random random, int most) {
        return random.nextInt(6) == 0 ? ODD[random.nextInt(ODD.length)] : random.nextInt(most);
    }

    private static void anyCalls() {
        for (int seed = 0; seed < 400; seed++) {
            Random random = Pair.random(70000 + seed);
            Pair pair = new Pair("any " + seed);
            int repeated = random.nextInt();
            for (int call = 0; call < 120; call++) {
                anyCall(pair, random, random.nextInt(3) == 0 ? random.nextInt() : repeated);
            }
            pair.askAll();
        }
    }

    private static void anyCall(Pair pair, Random random, int number) {
        switch (random.nextInt(20)) {
            case 0: pair.cut(random.nextInt(4) == 0 ? someNumber(random, 300) : pair.told(0) - random.nextInt(9)); break;
            case 1: pair.out(someNumber(random, 300)); break;
            case 2: pair.back(); break;
            case 3: pair.dictionary(); break;
            case 4: pair.set(someNumber(random, 7), someNumber(random, 3)); break;
            case 5: pair.set(0, someNumber(random, 200)); break;
            case 6: pair.pack(someNumber(random, 5), someNumber(random, 4)); break;
            case 7: pair.more(someNumber(random, 5), someNumber(random, 4)); break;
            case 8: pair.skip(someNumber(random, 5), someNumber(random, 260)); break;
            case 9: pair.open(someNumber(random, 5)); break;
            case 10: pair.rule(someNumber(random, 3)); break;
            case 11: pair.block(someNumber(random, 6), someNumber(random, 8)); break;
            case 12: pair.longest(someNumber(random, 60)); break;
            case 13: pair.near(someNumber(random, 60), someNumber(random, 9)); break;
            case 14: pair.sum(someNumber(random, 4)); break;
            case 15: pair.bound(someNumber(random, 4), random.nextBoolean() ? number : someNumber(random, 3000)); break;
            case 16: pair.told(someNumber(random, 5)); break;
            default: pair.feed(number, number, random.nextInt(3), number, number + random.nextInt(2)); break;
        }
    }
}
