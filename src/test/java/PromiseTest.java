import java.util.ArrayList;
import java.util.List;

/**
 * For each promise: ordinary inputs, the edges that the document names, wrong inputs; the answers are said by hand.
 * No object is used for more calls than the document allows.
 */
public final class PromiseTest extends Due {
    public static void main(String[] args) {
        newObject();
        feed();
        cut();
        out();
        back();
        dictionary();
        set();
        packSequences();
        packElements();
        packFrames();
        packChunks();
        more();
        skip();
        openSequences();
        openElements();
        openFrames();
        openChunks();
        rule();
        block();
        longestAndNear();
        sum();
        bound();
        told();
        end();
    }

    private static void dueBytes(String what, Counted x, int... want) {
        x.holds(what, want);
    }

    private static Counted load(Counted x, int[] some) {
        return x.load(some);
    }

    private static Counted with(int[] some) {
        return new Counted().load(some);
    }

    private static Counted withWords(int[] words) {
        return new Counted().loadWords(words);
    }

    /** An object whose out has something that stays, if a RULE is broken. */
    private static Counted something() {
        return something("");
    }

    private static Counted something(String words) {
        Counted x = withWords(bytes(words)).load(bytes("something"));
        x.pack(0, 0);
        return x;
    }

    // ---- promises

    private static void newObject() {
        Counted x = new Counted();
        for (int what = 0; what <= 3; what++) {
            due("1 told(" + what + ")", x.told(what), 0);
        }
        due("1 BLOCK", x.set(0, 16), 4000);
        for (int what = 1; what <= 5; what++) {
            due("1 set(" + what + ")", x.set(what, 1), 0);
        }
        due("1 rule(0)", x.rule(0), 0);
        due("1 rule(1)", x.rule(1), NONE);
        due("1 block", x.block(0, 0), NONE);
        due("1 out", x.out(0), BAD);
        due("1 back", x.back(), 0);
        due("1 dictionary", x.dictionary(), 0);
        due("1 another object", new Counted().set(0, 16), 4000);
    }

    private static void feed() {
        Counted x = new Counted();
        due("2 feed", x.feed(0x01020304, 0xF0F1F2F3, 0, -1, 0x7F80FF00), 20);
        x.cut(20);
        x.set(0, 20);
        x.pack(3, 0);
        dueBytes("2 bytes", x, bytes(255, 6, 0, 0, "sNaPpY", 1, 24, 0, 0,
                crcOf(bytes(1, 2, 3, 4, 240, 241, 242, 243, 0, 0, 0, 0, 255, 255, 255, 255, 127, 128, 255, 0)),
                1, 2, 3, 4, 240, 241, 242, 243, 0, 0, 0, 0, 255, 255, 255, 255, 127, 128, 255, 0));
        for (int i = 1; i <= 200; i++) {
            due("2 feed " + i, x.feed(i, i, i, i, i), 20 * i);
        }
        due("2 full", x.feed(1, 2, 3, 4, 5), FULL);
        due("2 unchanged", x.told(0), 4000);
        x.cut(3981);
        due("2 one too many", x.feed(1, 2, 3, 4, 5), FULL);
        due("2 unchanged", x.told(0), 3981);
        x.cut(3980);
        due("2 just room", x.feed(1, 2, 3, 4, 5), 4000);
    }

    private static void cut() {
        Counted x = with(bytes("abcdefghij"));
        due("3 too many", x.cut(11), BAD);
        due("3 below 0", x.cut(-1), BAD);
        due("3 unchanged", x.told(0), 10);
        due("3 all", x.cut(10), 0);
        due("3 some", x.cut(4), 6);
        x.pack(0, 0);
        dueBytes("3 the first ones stay", x, bytes(0x40, "abcd"));
        due("3 of none", x.cut(0), 0);
        due("3 of none, one", x.cut(1), BAD);
        due("3 the lowest", x.cut(Integer.MIN_VALUE), BAD);
    }

    private static void out() {
        Counted x = with(bytes(200, 255, 0));
        x.pack(0, 0);
        dueBytes("4", x, 0x30, 200, 255, 0);
        due("4 below 0", x.out(-1), BAD);
        due("4 behind", x.out(4), BAD);
        due("4 far", x.out(Integer.MAX_VALUE), BAD);
    }

    private static void back() {
        Counted x = with(bytes("abc"));
        x.pack(0, 0);
        load(x, bytes("is gone then"));
        due("5 back", x.back(), 4);
        due("5 input", x.told(0), 4);
        due("5 the out stays", x.told(1), 4);
        due("5 open", x.open(0), 3);
        dueBytes("5", x, bytes("abc"));
        // 4,000 bytes go back, 4,001 do not: 1 + 4 + 15 + 3,975 + 5, or one more.
        load(x, bytes(0x1F, 97, 1, 0, times(15, 255), 150, 0x50, "bcdef"));
        due("5 4,000", x.open(0), 4000);
        due("5 4,000 back", x.back(), 4000);
        load(x, bytes(0x1F, 97, 1, 0, times(15, 255), 151, 0x50, "bcdef"));
        due("5 4,001", x.open(0), 4001);
        load(x, bytes("stays"));
        due("5 full", x.back(), FULL);
        due("5 unchanged", x.told(0), 5);
    }

    private static void dictionary() {
        Counted x = with(bytes("abcdefgh"));
        due("6 dictionary", x.dictionary(), 8);
        due("6 the input is empty", x.told(0), 0);
        due("6 told", x.told(2), 8);
        load(x, bytes("cdefghxxxxxxx"));
        due("6 it is leant on", x.longest(0), 6);
        due("6 how far back", x.near(0, 6), 6);
        load(x, times(1000, 7));
        due("6 the most", x.dictionary(), 1000);
        load(x, times(1001, 7));
        due("6 full", x.dictionary(), FULL);
        due("6 the input stays", x.told(0), 1001);
        due("6 the dictionary stays", x.told(2), 1000);
        x.cut(0);
        due("6 of none", x.dictionary(), 0);
        due("6 none is left", x.told(2), 0);
    }

    private static void set() {
        Counted x = new Counted();
        due("7 BLOCK 16", x.set(0, 16), 4000);
        due("7 BLOCK 15", x.set(0, 15), BAD);
        due("7 BLOCK 4,001", x.set(0, 4001), BAD);
        due("7 BLOCK 4,000", x.set(0, 4000), 16);
        for (int what = 1; what <= 4; what++) {
            due("7 1 of " + what, x.set(what, 1), 0);
            due("7 2 of " + what, x.set(what, 2), BAD);
            due("7 -1 of " + what, x.set(what, -1), BAD);
            due("7 0 of " + what, x.set(what, 0), 1);
        }
        due("7 ID", x.set(5, -1), 0);
        due("7 ID", x.set(5, Integer.MIN_VALUE), -1);
        due("7 ID", x.set(5, 0), Integer.MIN_VALUE);
        due("7 -1", x.set(-1, 0), BAD);
        due("7 6", x.set(6, 0), BAD);
    }

    private static void packSequences() {
        Counted x = new Counted();
        due("8 nothing", x.pack(0, 2), 1);
        dueBytes("8 nothing", x, 0);
        due("8 form -1", x.pack(-1, 0), BAD);
        due("8 form 4", x.pack(4, 0), BAD);
        due("8 level -1", x.pack(0, -1), BAD);
        due("8 level 3", x.pack(0, 3), BAD);
        for (int level = 0; level <= 2; level++) {
            // 12 alike have no place before; 13 have a copy of 7 at place 1 (place 1 is n - 12).
            packs(0, level, times(12, 97), bytes(0xC0, times(12, 97)));
            packs(0, level, times(13, 97), bytes(0x13, 97, 1, 0, 0x50, times(5, 97)));
            packs(0, level, bytes("abc"), bytes(0x30, "abc"));
            packs(0, level, unlike(14), bytes(0xE0, unlike(14)));
            packs(0, level, unlike(15), bytes(0xF0, 0, unlike(15)));
            packs(0, level, unlike(269), bytes(0xF0, 254, unlike(269)));
            packs(0, level, unlike(270), bytes(0xF0, 255, 0, unlike(270)));
            packs(0, level, times(24, 97), bytes(0x1E, 97, 1, 0, 0x50, times(5, 97)));
            packs(0, level, times(25, 97), bytes(0x1F, 97, 1, 0, 0, 0x50, times(5, 97)));
            packs(0, level, times(280, 97), bytes(0x1F, 97, 1, 0, 255, 0, 0x50, times(5, 97)));
        }
        // By a dictionary a block of 12 has a copy, from its first place on; one of 11 has none.
        Counted y = withWords(bytes("abcdefgh"));
        packs(y, 0, 0, bytes("abcdefghijkl"), bytes(0x03, 8, 0, 0x50, "hijkl"));
        packs(y, 0, 0, bytes("abcdefghijk"), bytes(0xB0, "abcdefghijk"));
        packs(y, 0, 2, bytes("ghabcdefghijklmn"), bytes(0x24, "gh", 10, 0, 0x60, "ijklmn"));
        levels();
    }

    private static void packs(int form, int level, int[] some, int[] want) {
        packs(new Counted(), form, level, some, want);
    }

    private static void packs(Counted x, int form, int level, int[] some, int[] want) {
        load(x, some);
        String what = "8 form " + form + ", level " + level + ", " + some.length + " bytes";
        due(what, x.pack(form, level), want.length);
        dueBytes(what, x, want);
        due(what + ": the input is empty", x.told(0), 0);
        x.back();
        due(what + ": open", x.open(form), some.length);
        dueBytes(what + ": open", x, some);
    }

    private static void levels() {
        // At the second "abcd" level 0 takes abcd, level 1 waits for bcdefghi.
        int[] some = bytes("abcdx", "bcdefghi", "abcdefghi", "zyxwv");
        packs(0, 0, some, bytes(0xD0, "abcdxbcdefghi", 13, 0, 0xA0, "efghizyxwv"));
        packs(0, 1, some, bytes(0xE4, "abcdxbcdefghia", 9, 0, 0x50, "zyxwv"));
        packs(0, 2, some, bytes(0xE4, "abcdxbcdefghia", 9, 0, 0x50, "zyxwv"));
        // One as long as that here is no reason to wait.
        int[] alike = bytes("abcd", 1, "bcde", 2, "abcde", 3, 4, 5, 6, 7, 8, 9, 10);
        packs(0, 1, alike, bytes(0xA0, "abcd", 1, "bcde", 2, 10, 0, 0x90, "e", 3, 4, 5, 6, 7, 8, 9, 10));
        packs(0, 0, alike, bytes(0xA0, "abcd", 1, "bcde", 2, 10, 0, 0x90, "e", 3, 4, 5, 6, 7, 8, 9, 10));
    }

    private static void packElements() {
        Counted x = new Counted();
        for (int level = 0; level <= 2; level++) {
            packs(2, level, bytes(), bytes(0));
            packs(2, level, bytes("a"), bytes(1, 0, "a"));
            packs(2, level, unlike(60), bytes(60, 59 * 4, unlike(60)));
            packs(2, level, times(65, 97), bytes(65, 0, 97, 63 * 4 + 2, 1, 0));
            packs(2, level, times(12, 97), bytes(12, 0, 97, 7 * 4 + 1, 1));
            packs(2, level, times(13, 97), bytes(13, 0, 97, 11 * 4 + 2, 1, 0));
        }
        for (int level = 0; level <= 1; level++) {
            packs(2, level, bytes("aaaa"), bytes(4, 12, "aaaa"));
            packs(2, level, unlike(61), bytes(61, 60 * 4, 60, unlike(61)));
            packs(2, level, unlike(256), bytes(128, 2, 60 * 4, 255, unlike(256)));
            packs(2, level, unlike(257), bytes(129, 2, 61 * 4, 0, 1, unlike(257)));
            // 67 left: 60 and 7; 68: 64 and 4; 132: 64, 64, 4; 131: 64, 60, 7.
            packs(2, level, times(68, 97), bytes(68, 0, 97, 59 * 4 + 2, 1, 0, 3 * 4 + 1, 1));
            packs(2, level, times(69, 97), bytes(69, 0, 97, 63 * 4 + 2, 1, 0, 1, 1));
            packs(2, level, times(132, 97), bytes(132, 1, 0, 97, 254, 1, 0, 59 * 4 + 2, 1, 0, 3 * 4 + 1, 1));
            packs(2, level, times(133, 97), bytes(133, 1, 0, 97, 254, 1, 0, 254, 1, 0, 1, 1));
        }
        // Each piece has its own offset: the last 40 bytes stand nearer than all 104.
        int[] head = unlike(64);
        int[] tail = times(40, 9);
        int[] some = bytes(head, tail, 8, tail, 7, head, tail);
        packs(2, 0, some, bytes(250, 1, 61 * 4 - 4, 64, head, 9, 38 * 4 + 2, 1, 0, 0, 8, 39 * 4 + 2, 41, 0,
                0, 7, 254, 146, 0, 39 * 4 + 2, 105, 0));
        // The dictionary is not leant on; an offset of 2,048 takes three bytes.
        packs(withWords(bytes("abcdefgh")), 2, 0, bytes("abcdefgh"), bytes(8, 28, "abcdefgh"));
        int[] far = bytes("qrstu", unlike(2042), "qrstu");
        packs(2, 0, far, bytes(132, 16, 61 * 4, 254, 7, "qrstu", unlike(2042), 7 * 32 + 4 + 1, 255));
        far = bytes("qrstu", unlike(2043), "qrstu");
        packs(2, 0, far, bytes(133, 16, 61 * 4, 255, 7, "qrstu", unlike(2043), 4 * 4 + 2, 0, 8));
        for (int offset : new int[] {255, 256, 511, 512}) {
            int[] between = unlike(offset - 5);
            packs(2, 0, bytes("qrstu", between, "qrstu"), bytes(128 + (offset + 5) % 128, (offset + 5) / 128,
                    offset <= 256 ? bytes(240, offset - 1) : bytes(244, (offset - 1) % 256, (offset - 1) / 256),
                    "qrstu", between, offset / 256 * 32 + 4 + 1, offset % 256));
        }
        packs(2, 0, unlike(127), bytes(127, 240, 126, unlike(127)));
        packs(2, 0, unlike(128), bytes(128, 1, 240, 127, unlike(128)));
        // Level 2 has copies of 1 to 3, and of 64 at most; of several rows that with the fewest literals first.
        packs(2, 2, bytes("aaaa"), bytes(4, 0, "a", 2 * 4 + 2, 1, 0));
        packs(2, 2, times(66, 97), bytes(66, 4, "aa", 254, 1, 0));
        packs(2, 2, times(129, 97), bytes(129, 1, 0, 97, 254, 1, 0, 254, 1, 0));
        closeCopies();
    }

    /** Two copies of 4 bytes take as much together with the literals around them, unless the first is far. */
    private static void closeCopies() {
        int[] between = unlike(2043 - 4);
        int[] some = bytes("wxyz", between, "xyz!", "wxyz!", 254);
        packs(2, 2, some, bytes(128 + 2053 % 128, 2053 / 128, 244, 2046 % 256, 7, "wxyz", between, "xyz!",
                7 * 32 + 1, 255, 4, "!", 254));
        between = unlike(2044 - 4);
        some = bytes("wxyz", between, "xyz!", "wxyz!", 254);
        packs(2, 2, some, bytes(128 + 2054 % 128, 2054 / 128, 244, 2048 % 256, 8, "wxyz", between, "xyz!w",
                1, 5, 0, 254));
    }

    private static void packFrames() {
        int[] flags = bytes(96, 64);
        packs(1, 0, bytes(), bytes(4, 34, 77, 24, flags, sumOf(flags)[1], 0, 0, 0, 0));
        // One that is not shorter is raw: 13 alike take 10 bytes, 15 unlike ones 17.
        packs(1, 2, times(13, 97), bytes(4, 34, 77, 24, flags, sumOf(flags)[1], 10, 0, 0, 0,
                0x13, 97, 1, 0, 0x50, times(5, 97), 0, 0, 0, 0));
        packs(1, 2, unlike(15), bytes(4, 34, 77, 24, flags, sumOf(flags)[1], 15, 0, 0, 128, unlike(15), 0, 0, 0, 0));
        // A copy of 4 bytes saves nothing: as many bytes are not fewer.
        packs(0, 0, bytes("abcd1abcd23456789"), bytes(0x50, "abcd1", 5, 0, 0x80, "23456789"));
        packs(1, 0, bytes("abcd1abcd23456789"), bytes(4, 34, 77, 24, flags, sumOf(flags)[1], 17, 0, 0, 128,
                "abcd1abcd23456789", 0, 0, 0, 0));
        Counted x = new Counted();
        x.set(0, 16);
        x.set(2, 1);
        x.set(3, 1);
        x.set(4, 1);
        x.set(5, 0x81020304);
        int[] told = bytes(64 + 32 + 16 + 8 + 4 + 1, 64, number(34, 8), 4, 3, 2, 0x81);
        int[] some = bytes(times(16, 97), times(16, 97), "zz");
        int[] block = bytes(0x16, 97, 1, 0, 0x50, times(5, 97));
        packs(x, 1, 1, some, bytes(4, 34, 77, 24, told, sumOf(told)[1], 10, 0, 0, 0, block, sumOf(block),
                10, 0, 0, 0, block, sumOf(block), 2, 0, 0, 128, "zz", sumOf(bytes("zz")), 0, 0, 0, 0, sumOf(some)));
        // If they lean on each other, the second block begins with a copy; the dictionary is before the first.
        x = new Counted();
        x.set(0, 16);
        x.set(1, 1);
        flags = bytes(64, 64);
        packs(x, 1, 1, some, bytes(4, 34, 77, 24, flags, sumOf(flags)[1], 10, 0, 0, 0, block,
                9, 0, 0, 0, 7, 1, 0, 0x50, times(5, 97), 2, 0, 0, 128, "zz", 0, 0, 0, 0));
        load(x, bytes("aaaabbbb"));
        x.dictionary();
        packs(x, 1, 0, bytes("bbbbbbbbbbbcdefg", "aaaabbbbbbbcdefg"), bytes(4, 34, 77, 24, flags, sumOf(flags)[1],
                9, 0, 0, 0, 7, 1, 0, 0x50, "cdefg", 9, 0, 0, 0, 7, 24, 0, 0x50, "cdefg", 0, 0, 0, 0));
    }

    private static void packChunks() {
        Counted x = new Counted();
        int[] first = bytes(255, 6, 0, 0, "sNaPpY");
        packs(x, 3, 0, bytes(), first);
        packs(x, 2, 0, bytes("abcdabcd"), bytes(8, 12, "abcd", 1, 4));
        packs(x, 3, 0, bytes("abcdabcd"), bytes(first, 1, 12, 0, 0, crcOf(bytes("abcdabcd")), "abcdabcd"));
        packs(x, 3, 0, bytes("abcdabcda"), bytes(first, 0, 12, 0, 0, crcOf(bytes("abcdabcda")), 9, 12, "abcd", 5, 4));
        x.set(0, 20);
        // 20 alike take 6 bytes, the 3 left take 5 and are raw.
        int[] some = bytes(times(20, 97), "xyz");
        packs(x, 3, 0, some, bytes(first, 0, 10, 0, 0, crcOf(times(20, 97)), 20, 0, 97, 18 * 4 + 2, 1, 0,
                1, 7, 0, 0, crcOf(bytes("xyz")), "xyz"));
    }

    private static void more() {
        Counted x = with(bytes("abc"));
        due("9 form 0", x.more(0, 0), BAD);
        due("9 form 2", x.more(2, 0), BAD);
        due("9 form -1", x.more(-1, 0), BAD);
        due("9 form 4", x.more(4, 0), BAD);
        due("9 level -1", x.more(1, -1), BAD);
        due("9 level 3", x.more(3, 3), BAD);
        due("9 behind nothing", x.more(3, 0), 21);
        due("9 the input is empty", x.told(0), 0);
        load(x, bytes("de"));
        due("9 behind that", x.more(3, 1), 41);
        dueBytes("9", x, bytes(255, 6, 0, 0, "sNaPpY", 1, 7, 0, 0, crcOf(bytes("abc")), "abc",
                255, 6, 0, 0, "sNaPpY", 1, 6, 0, 0, crcOf(bytes("de")), "de"));
        due("9 its blocks alone", x.told(3), 1);
        due("9 where in the out", x.block(0, 0), 39);
        x.back();
        due("9 open", x.open(3), 5);
        // 4,000 unlike bytes take 4,015 as a frame, and there are 3,970 left.
        x = with(bytes(0x1F, 97, 1, 0, times(31, 255), 100, 0x50, "bcdef"));
        due("9 8,030", x.open(0), 8030);
        load(x, unlike(4000));
        due("9 12,045", x.more(1, 0), FULL);
        due("9 the input stays", x.told(0), 4000);
        due("9 the out stays", x.told(1), 8030);
        due("9 the blocks stay", x.block(0, 1), 42);
        x.cut(3956);
        due("9 one too many", x.more(1, 0), FULL);
        x.cut(3955);
        due("9 all room", x.more(1, 0), 12000);
        due("9 nothing more", x.more(1, 0), FULL);
    }

    private static void skip() {
        Counted x = with(bytes("abc"));
        for (int kind : new int[] {79, 96, 128, -1}) {
            due("10 form 1, " + kind, x.skip(1, kind), BAD);
        }
        for (int kind : new int[] {127, 255, 80, -1}) {
            due("10 form 3, " + kind, x.skip(3, kind), BAD);
        }
        due("10 form 0", x.skip(0, 80), BAD);
        due("10 form 2", x.skip(2, 128), BAD);
        due("10 unchanged", x.told(0), 3);
        due("10 piece", x.skip(1, 80), 11);
        due("10 the input is empty", x.told(0), 0);
        due("10 empty piece", x.skip(1, 95), 19);
        dueBytes("10", x, bytes(80, 42, 77, 24, 3, 0, 0, 0, "abc", 95, 42, 77, 24, 0, 0, 0, 0));
        x.back();
        due("10 nothing comes", x.open(1), 0);
        load(x, bytes());
        x.pack(3, 0);
        load(x, bytes("abc"));
        due("10 chunk", x.skip(3, 128), 17);
        due("10 empty chunk", x.skip(3, 254), 21);
        dueBytes("10", x, bytes(255, 6, 0, 0, "sNaPpY", 128, 3, 0, 0, "abc", 254, 0, 0, 0));
        x.back();
        due("10 nothing comes", x.open(3), 0);
        x = with(bytes(0x1F, 97, 1, 0, times(31, 255), 78, 0x50, "bcdef"));
        due("10 8,008", x.open(0), 8008);
        load(x, times(3989, 1));
        due("10 one too many", x.skip(3, 200), FULL);
        due("10 unchanged", x.told(0), 3989);
        due("10 unchanged", x.told(1), 8008);
        x.cut(3985);
        due("10 a piece: one too many", x.skip(1, 80), FULL);
        x.cut(3984);
        due("10 all room", x.skip(1, 80), 12000);
        due("10 no room for an empty one", x.skip(1, 80), FULL);
        due("10 no room for an empty chunk", x.skip(3, 200), FULL);
    }

    /** Opens some bytes: a rule at a place, or how many come. */
    private static void breaks(int form, int rule, int place, Object... parts) {
        breaks(something(), form, rule, place, parts);
    }

    private static void breaks(Counted x, int form, int rule, int place, Object... parts) {
        int[] some = bytes(parts);
        int had = x.told(1);
        int blocks = x.told(3);
        load(x, some);
        String what = "11 form " + form + " " + list(some.length > 60 ? java.util.Arrays.copyOf(some, 60) : some);
        due(what, x.open(form), -10 - rule);
        due("12 rule of " + what, x.rule(0), rule);
        due("12 place of " + what, x.rule(1), place);
        due("11 the out stays", x.told(1), had);
        due("13 the blocks stay", x.told(3), blocks);
        due("11 the input is empty", x.told(0), 0);
    }

    private static void opens(int form, int[] want, Object... parts) {
        opens(something(), form, want, parts);
    }

    private static void opens(Counted x, int form, int[] want, Object... parts) {
        int[] some = bytes(parts);
        load(x, some);
        String what = "11 form " + form + " " + list(some.length > 60 ? java.util.Arrays.copyOf(some, 60) : some);
        due(what, x.open(form), want.length);
        dueBytes(what, x, want);
        due("12 no rule of " + what, x.rule(0), 0);
        due("12 no place of " + what, x.rule(1), NONE);
        due("11 the input is empty", x.told(0), 0);
    }

    private static void openSequences() {
        Counted x = something();
        due("11 form -1", x.open(-1), BAD);
        due("11 form 4", x.open(4), BAD);
        opens(0, bytes(), 0);
        opens(0, bytes("abc"), 0x30, "abc");
        opens(0, unlike(15), 0xF0, 0, unlike(15));
        opens(0, times(25, 97), 0x1F, 97, 1, 0, 0, 0x50, "aaaaa");
        opens(0, bytes("abababababcdefg"), 0x24, "ab", 2, 0, 0x50, "cdefg");
        breaks(0, 1, 0);
        breaks(0, 1, 1, 0x10);
        breaks(0, 1, 3, 0x30, "ab");
        breaks(0, 1, 1, 0xF0);
        breaks(0, 1, 3, 0xF0, 255, 255);
        breaks(0, 1, 3, 0x10, "a", 1);
        breaks(0, 1, 4, 0x1F, "a", 1, 0);
        breaks(0, 1, 5, 0x1F, "a", 1, 0, 255);
        breaks(0, 1, 4, 0x10, "a", 1, 0);
        breaks(0, 1, 54, 0x1F, "a", 1, 0, times(50, 255));
        breaks(0, 2, 2, 0x10, "a", 0, 0, 0x50, "bcdef");
        breaks(0, 2, 2, 0x10, "a", 2, 0, 0x50, "bcdef");
        breaks(0, 2, 2, 0x1F, "a", 2, 0);
        breaks(0, 2, 1, 0, 1, 0, 0x50, "bcdef");
        breaks(0, 3, 0, 0x11, "a");
        breaks(0, 3, 0, 0x01);
        // 4 literals at the end; a copy 11 and 12 bytes before it; a copy at the very end lacks the last sequence.
        breaks(0, 3, 5, 0x1F, "a", 1, 0, 0, 0x40, "bcde");
        breaks(0, 3, 4, 0x12, "a", 1, 0, 0x50, "bcdef");
        breaks(0, 3, 4, 0x13, "a", 1, 0, 0x51, "bcdef");
        opens(0, bytes("aaaaaaaabcdef"), 0x13, "a", 1, 0, 0x50, "bcdef");
        breaks(0, 3, 4, 0x13, "a", 1, 0, 0);
        // 12,000 come, or one more: at the last token, and at the first.
        opens(0, bytes(times(11995, 97), "bcdef"), 0x1F, "a", 1, 0, times(46, 255), 245, 0x50, "bcdef");
        breaks(0, 12, 51, 0x1F, "a", 1, 0, times(46, 255), 246, 0x50, "bcdef");
        breaks(0, 12, 51, 0x1F, "a", 1, 0, times(46, 255), 250, 0x11, "b");
        breaks(0, 1, 52, 0x1F, "a", 1, 0, times(46, 255), 250, 0x51);
        breaks(0, 12, 0, 0x1F, "a", 1, 0, times(46, 255), 251, 0x50, "bcdef");
        breaks(0, 3, 51, 0x1F, "a", 1, 0, times(46, 255), 250, 0);
        // By a dictionary a copy may begin before the first byte, and go on into the block.
        Counted y = withWords(bytes("xyz"));
        opens(y, 0, bytes("ayzayzayzbcdef"), 0x14, "a", 3, 0, 0x50, "bcdef");
        opens(y, 0, bytes("xyzxyzxabcdefg"), 3, 3, 0, 0x70, "abcdefg");
        breaks(y, 0, 2, 1, 3, 4, 0, 0x70, "abcdefg");
        breaks(y, 0, 3, 3, 4, 3, 0, 0x40, "abcd");
        breaks(y, 0, 3, 3, 2, 3, 0, 0x50, "abcde");
    }

    private static void openElements() {
        opens(something("not leant on"), 2, bytes(), 0);
        opens(something("not leant on"), 2, bytes(), 128, 128, 128, 128, 0);
        opens(something("not leant on"), 2, bytes("ab"), 2, 4, "ab");
        opens(something("not leant on"), 2, bytes("ab"), 2, 240, 1, "ab");
        opens(something("not leant on"), 2, bytes("ab"), 2, 244, 1, 0, "ab");
        opens(something("not leant on"), 2, bytes("ab"), 2, 248, 1, 0, 0, "ab");
        opens(something("not leant on"), 2, bytes("ab"), 2, 252, 1, 0, 0, 0, "ab");
        opens(something("not leant on"), 2, bytes("abcabca"), 7, 8, "abc", 1, 3);
        opens(something("not leant on"), 2, bytes("abcb"), 4, 8, "abc", 2, 2, 0);
        opens(something("not leant on"), 2, bytes("abcbcbc"), 7, 8, "abc", 3 * 4 + 3, 2, 0, 0, 0);
        opens(something("not leant on"), 2, bytes(unlike(300), times(11, 255)), 183, 2, 244, 43, 1, unlike(300), 7 * 4 + 1, 1);
        opens(something("not leant on"), 2, bytes(unlike(300), 0, 0), 174, 2, 244, 43, 1, unlike(300), 4 + 2, 44, 1);
        opens(something("not leant on"), 2, bytes(unlike(300), 0, 0, 0, 255), 176, 2, 244, 43, 1, unlike(300), 32 + 1, 44);
        breaks(something("not leant on"), 2, 1, 0);
        breaks(something("not leant on"), 2, 1, 1, 128);
        breaks(something("not leant on"), 2, 1, 4, 255, 255, 255, 255);
        breaks(something("not leant on"), 2, 13, 0, 128, 128, 128, 128, 128, 0);
        breaks(something("not leant on"), 2, 13, 0, 128, 128, 128, 128, 128);
        breaks(something("not leant on"), 2, 13, 0, 128, 128, 128, 128, 16);
        breaks(something("not leant on"), 2, 12, 0, 255, 255, 255, 255, 15);
        breaks(something("not leant on"), 2, 12, 0, 225, 93);
        breaks(something("not leant on"), 2, 14, 2, 224, 93);
        breaks(something("not leant on"), 2, 1, 2, 5, 240);
        breaks(something("not leant on"), 2, 1, 3, 5, 244, 0);
        breaks(something("not leant on"), 2, 1, 5, 5, 252, 0, 0, 0);
        breaks(something("not leant on"), 2, 1, 3, 5, 4, "a");
        breaks(something("not leant on"), 2, 1, 4, 5, 0, "a", 1);
        breaks(something("not leant on"), 2, 1, 5, 5, 0, "a", 2, 1);
        breaks(something("not leant on"), 2, 1, 7, 5, 0, "a", 3, 1, 0, 0);
        breaks(something("not leant on"), 2, 14, 1, 1, 4, "ab");
        breaks(something("not leant on"), 2, 14, 1, 1, 252, 255, 255, 255, 255);
        breaks(something("not leant on"), 2, 14, 3, 4, 0, "a", 1, 0);
        breaks(something("not leant on"), 2, 14, 3, 1, 0, "a", 0, "b");
        breaks(something("not leant on"), 2, 14, 3, 2, 0, "a");
        breaks(something("not leant on"), 2, 14, 1, 1);
        breaks(something("not leant on"), 2, 14, 1, 0, 0);
        breaks(something("not leant on"), 2, 1, 2, 0, 240);
        breaks(something("not leant on"), 2, 2, 3, 5, 0, "a", 1, 0);
        breaks(something("not leant on"), 2, 2, 3, 5, 0, "a", 1, 2);
        breaks(something("not leant on"), 2, 2, 1, 4, 1, 1);
        breaks(something("not leant on"), 2, 2, 3, 5, 0, "a", 3 * 4 + 2, 2, 0);
        breaks(something("not leant on"), 2, 2, 3, 5, 0, "a", 3 * 4 + 3, 255, 255, 255, 255);
        breaks(something("not leant on"), 2, 2, 3, 5, 0, "a", 3 * 4 + 3, 1, 0, 0, 1);
    }

    private static void openFrames() {
        Counted x = something();
        int[] end = {0, 0, 0, 0};
        int[] plain = head(96, 64);
        int[] raw = bytes(3, 0, 0, 128, "abc");
        opens(1, bytes());
        opens(1, bytes(), plain, end);
        opens(1, bytes("abc"), plain, raw, end);
        opens(1, bytes("abcdef"), plain, raw, 4, 0, 0, 0, 0x30, "def", end);
        opens(1, bytes("abcabc"), plain, raw, end, 85, 42, 77, 24, 2, 0, 0, 0, 1, 2, head(64, 112), raw, end);
        opens(x, 1, bytes(), plain, 0, 0, 0, 128, end);
        due("13 a raw block of none", x.block(0, 3), 1);
        int[] many = new int[4 * 997];
        for (int i = 3; i < many.length; i += 4) {
            many[i] = 128;
        }
        opens(x, 1, bytes(), plain, many, end);
        due("13 all that an input can have", x.told(3), 997);
        due("13 the last one", x.block(996, 0), 7 + 4 * 997);
        breaks(1, 1, 3, 4, 34, 77);
        breaks(1, 4, 0, 4, 34, 77, 25);
        breaks(1, 4, 0, 79, 42, 77, 24, end);
        breaks(1, 4, 0, 96, 42, 77, 24, end);
        breaks(1, 4, 11, plain, end, 5, 34, 77, 24);
        breaks(1, 1, 12, plain, end, 4);
        breaks(1, 1, 7, 80, 42, 77, 24, 0, 0, 0);
        breaks(1, 1, 9, 80, 42, 77, 24, 2, 0, 0, 0, 1);
        breaks(1, 1, 9, 80, 42, 77, 24, 255, 255, 255, 255, 1);
        breaks(1, 1, 4, 4, 34, 77, 24);
        for (int flags : new int[] {0, 32, 128 + 64, 128, 66, 98}) {
            breaks(1, 5, 4, 4, 34, 77, 24, flags);
        }
        breaks(1, 1, 5, 4, 34, 77, 24, 96);
        for (int w : new int[] {48, 65, 72, 128, 192, 0, 255}) {
            breaks(1, 5, 5, 4, 34, 77, 24, 96, w);
        }
        breaks(1, 1, 6, 4, 34, 77, 24, 96, 64);
        breaks(1, 1, 14, 4, 34, 77, 24, 104, 64, number(0, 8));
        breaks(1, 1, 10, 4, 34, 77, 24, 97, 64, number(7, 4));
        breaks(1, 6, 6, 4, 34, 77, 24, 96, 64, sumOf(bytes(96, 64))[1] ^ 1, end);
        breaks(1, 6, 10, 4, 34, 77, 24, 97, 64, number(7, 4), sumOf(bytes(97, 64, number(7, 4)))[1] ^ 1, end);
        ids(end);
        breaks(1, 1, 10, plain, 0, 0, 0);
        breaks(1, 7, 7, plain, number(65537, 4));
        breaks(1, 1, 11, plain, number(65536, 4));
        breaks(1, 7, 7, plain, number((1L << 31) + 65537, 4));
        breaks(1, 7, 7, head(96, 80), number(262145, 4));
        breaks(1, 1, 11, head(96, 112), number(4194304, 4));
        breaks(1, 7, 7, head(96, 112), number((1L << 32) - 1, 4));
        breaks(1, 1, 13, plain, 3, 0, 0, 128, "ab");
        sums(end, raw);
        leaning(end);
        tooMany(end);
    }

    private static void ids(int[] end) {
        Counted x = something();
        breaks(x, 1, 11, 6, head(97, 64, number(7, 4)), end);
        opens(x, 1, bytes(), head(97, 64, number(0, 4)), end);
        x.set(5, 0x80000007);
        opens(x, 1, bytes(), head(97, 64, number(0x80000007L, 4)), end);
        opens(x, 1, bytes(), head(96, 64), end);
        breaks(x, 1, 11, 14, head(105, 64, number(0, 8), number(7, 4)), end);
        breaks(x, 1, 11, 6, head(97, 64, number(0, 4)), end);
        x.set(5, 0);
    }

    private static void sums(int[] end, int[] raw) {
        int[] withSums = head(112, 64);
        opens(1, bytes("abc"), withSums, raw, sumOf(bytes("abc")), end);
        breaks(1, 8, 14, withSums, raw, sumOf(bytes("abd")), end);
        breaks(1, 1, 17, withSums, raw, 1, 2, 3);
        // The sum is asked before the block is opened, which would break rule 3.
        breaks(1, 8, 12, withSums, 1, 0, 0, 0, 1, sumOf(bytes(2)), end);
        breaks(1, 3, 11, withSums, 1, 0, 0, 0, 1, sumOf(bytes(1)), end);
        int[] sized = head(104, 64, number(3, 8));
        opens(1, bytes("abc"), sized, raw, end);
        breaks(1, 9, 15, sized, end);
        breaks(1, 9, 22, head(104, 64, number(3 + (1L << 32), 8)), raw, end);
        int[] summed = head(100, 64);
        opens(1, bytes("abc"), summed, raw, end, sumOf(bytes("abc")));
        breaks(1, 10, 18, summed, raw, end, sumOf(bytes("abd")));
        breaks(1, 1, 20, summed, raw, end, 1, 2);
        breaks(1, 9, 22, head(108, 64, number(4, 8)), raw, end);
        // The sum and the size are those of their own frame.
        opens(1, bytes("abcabc"), head(108, 64, number(3, 8)), raw, end, sumOf(bytes("abc")),
                head(108, 64, number(3, 8)), raw, end, sumOf(bytes("abc")));
    }

    private static void leaning(int[] end) {
        int[] copy = bytes(9, 0, 0, 0, 3, 3, 0, 0x50, "vwxyz");
        int[] raw = bytes(3, 0, 0, 128, "abc");
        opens(1, bytes("abcabcabcavwxyz"), head(64, 64), raw, copy, end);
        breaks(1, 2, 19, head(96, 64), raw, copy, end);
        // What came of another frame is not there; the dictionary is, in each.
        breaks(1, 2, 30, head(64, 64), raw, end, head(64, 64), copy, end);
        Counted y = withWords(bytes("xy"));
        breaks(y, 1, 2, 30, head(64, 64), raw, end, head(64, 64), copy, end);
        y = withWords(bytes("wxy"));
        opens(y, 1, bytes("abcwxywxywvwxyz"), head(64, 64), raw, end, head(64, 64), copy, end);
        opens(y, 1, bytes("abcwxywxywvwxyz"), head(96, 64), raw, copy, end);
        int[] longer = bytes(9, 0, 0, 0, 3, 5, 0, 0x50, "vwxyz");
        opens(y, 1, bytes("abcxyabcxyvwxyz"), head(64, 64), raw, longer, end);
        // Bytes that lack in a block lack at its end.
        breaks(1, 1, 13, head(96, 64), 2, 0, 0, 0, 0x20, "a", raw, end);
        breaks(1, 3, 11, head(96, 64), 2, 0, 0, 0, 0x11, "a", raw, end);
    }

    private static void tooMany(int[] end) {
        // A block of 57 bytes, of which 12,000 come; then one more, raw or not.
        int[] most = bytes(57, 0, 0, 0, 0x1F, "a", 1, 0, times(46, 255), 245, 0x50, "bcdef");
        opens(1, bytes(times(11995, 97), "bcdef"), head(96, 64), most, end);
        breaks(1, 12, 68, head(96, 64), most, 1, 0, 0, 128, "x", end);
        breaks(1, 12, 72, head(96, 64), most, 2, 0, 0, 0, 0x10, "x", end);
        opens(1, bytes(times(11995, 97), "bcdef"), head(96, 64), most, 0, 0, 0, 128, 1, 0, 0, 0, 0, end);
        breaks(1, 12, 79, head(96, 64), most, end, head(96, 64), 1, 0, 0, 128, "x", end);
    }

    private static void openChunks() {
        int[] first = bytes(255, 6, 0, 0, "sNaPpY");
        opens(3, bytes(), first);
        opens(3, bytes(), first, first, 128, 0, 0, 0, 254, 2, 0, 0, 1, 2);
        opens(3, bytes("abc"), first, 1, 7, 0, 0, crcOf(bytes("abc")), "abc");
        opens(3, bytes("aaaaa"), first, 0, 9, 0, 0, crcOf(bytes("aaaaa")), 5, 0, "a", 1, 1);
        opens(3, bytes(), first, 1, 4, 0, 0, crcOf(bytes()), 0, 5, 0, 0, crcOf(bytes()), 0);
        breaks(3, 1, 0);
        breaks(3, 4, 0, 0);
        breaks(3, 4, 0, 254, 0, 0, 0, first);
        breaks(3, 1, 1, 255);
        breaks(3, 1, 3, 255, 7, 0);
        breaks(3, 4, 0, 255, 7, 0, 0);
        breaks(3, 1, 9, 255, 6, 0, 0, "sNaPp");
        breaks(3, 4, 0, 255, 6, 0, 0, "sNaPpy");
        breaks(3, 4, 10, first, 255, 6, 0, 0, "SNaPpY");
        breaks(3, 4, 10, first, 255, 6, 0, 1);
        breaks(3, 1, 11, first, 2);
        breaks(3, 15, 10, first, 2, 0, 0, 0);
        breaks(3, 15, 10, first, 127, 255, 255, 255);
        breaks(3, 15, 10, first, 0, 3, 0, 0);
        breaks(3, 15, 10, first, 1, 3, 0, 0, 1, 2, 3);
        breaks(3, 1, 17, first, 1, 4, 0, 0, 1, 2, 3);
        breaks(3, 1, 14, first, 128, 1, 0, 0);
        breaks(3, 8, 14, first, 1, 7, 0, 0, crcOf(bytes("abd")), "abc");
        breaks(3, 8, 14, first, 0, 8, 0, 0, crcOf(bytes("abd")), 2, 4, "ab");
        // What is in form 2 comes before the CRC; what lacks in a chunk lacks at its end.
        breaks(3, 1, 18, first, 0, 4, 0, 0, 1, 2, 3, 4, 128, 0, 0, 0);
        breaks(3, 1, 20, first, 0, 6, 0, 0, 1, 2, 3, 4, 2, 4, "ab");
        breaks(3, 14, 21, first, 0, 7, 0, 0, 1, 2, 3, 4, 2, 0, "a", first);
        breaks(3, 14, 19, first, 0, 8, 0, 0, 1, 2, 3, 4, 1, 4, "ab", first);
        breaks(3, 2, 28, first, 1, 5, 0, 0, crcOf(bytes("a")), "a", 0, 7, 0, 0, 1, 2, 3, 4, 4, 1, 1);
        chunksOfMany(first);
    }

    private static void chunksOfMany(int[] first) {
        // 12,000 come of copies of 64; then one more, raw or not.
        int[] copies = new int[3 * 187];
        for (int i = 0; i < copies.length; i += 3) {
            copies[i] = 254;
            copies[i + 1] = 1;
        }
        int[] all = times(12000, 97);
        int[] most = bytes(first, 0, number(4 + 2 + 2 + 561 + 3, 3), crcOf(all), 224, 93, 0, 97, copies, 30 * 4 + 2, 1, 0);
        opens(3, all, most);
        breaks(3, 12, most.length, most, 1, 5, 0, 0, 1, 2, 3, 4, "x");
        breaks(3, 12, most.length + 8, most, 0, 7, 0, 0, 1, 2, 3, 4, 1, 0, "x");
        opens(3, all, most, 1, 4, 0, 0, crcOf(bytes()));
    }

    private static void rule() {
        Counted x = new Counted();
        due("12 -1", x.rule(-1), BAD);
        due("12 2", x.rule(2), BAD);
        x.open(0);
        due("12 the rule", x.rule(0), 1);
        due("12 its place", x.rule(1), 0);
        x.open(7);
        due("12 a refused open() changes nothing", x.rule(0), 1);
        x.pack(0, 0);
        due("12 nor does pack()", x.rule(0), 1);
        x.open(1);
        due("12 none", x.rule(0), 0);
        due("12 no place", x.rule(1), NONE);
    }

    private static void dueBlock(String what, Counted x, int i, int... want) {
        for (int k = 0; k < 7; k++) {
            due("13 " + what + ": block(" + i + ", " + k + ")", x.block(i, k), want[k]);
        }
    }

    private static void block() {
        Counted x = new Counted();
        due("13 none yet", x.block(0, 0), NONE);
        due("13 what -1", x.block(0, -1), BAD);
        due("13 what 7", x.block(0, 7), BAD);
        due("13 what 7 of none", x.block(9, 7), BAD);
        due("13 below 0", x.block(-1, 0), NONE);
        due("13 far below 0", x.block(Integer.MIN_VALUE, 6), NONE);
        due("13 far above", x.block(Integer.MAX_VALUE, 6), NONE);
        due("13 below 0, what 7", x.block(-1, 7), BAD);
        due("13 below 0, what -1", x.block(-1, -1), BAD);
        load(x, times(30, 97));
        x.pack(0, 0);
        dueBlock("sequences", x, 0, 0, 11, 30, 0, 1, 6, 2);
        due("13 but one", x.block(1, 0), NONE);
        due("13 none below it", x.block(-1, 0), NONE);
        x.back();
        x.open(0);
        dueBlock("sequences opened", x, 0, 0, 11, 30, 0, 1, 6, 2);
        load(x, times(30, 97));
        x.pack(2, 0);
        dueBlock("elements", x, 0, 0, 6, 30, 0, 1, 1, 2);
        x.back();
        x.open(2);
        dueBlock("elements opened", x, 0, 0, 6, 30, 0, 1, 1, 2);
        x.open(0);
        dueBlock("a rule that is broken changes nothing", x, 0, 0, 6, 30, 0, 1, 1, 2);
        x.set(0, 20);
        x.set(2, 1);
        load(x, bytes(times(20, 97), "xyz"));
        x.pack(1, 0);
        due("13 how many", x.told(3), 2);
        dueBlock("frame", x, 0, 11, 10, 20, 0, 1, 6, 2);
        dueBlock("frame", x, 1, 29, 3, 3, 1, 0, 3, 0);
        x.skip(1, 80);
        dueBlock("skip() changes nothing", x, 1, 29, 3, 3, 1, 0, 3, 0);
        load(x, times(20, 97));
        x.more(1, 0);
        due("13 how many of more()", x.told(3), 1);
        dueBlock("more()", x, 0, 40 + 8 + 11, 10, 20, 0, 1, 6, 2);
        x.back();
        x.open(1);
        due("13 how many of open()", x.told(3), 3);
        dueBlock("frames opened", x, 1, 29, 3, 3, 1, 0, 3, 0);
        dueBlock("frames opened", x, 2, 40 + 8 + 11, 10, 20, 0, 1, 6, 2);
        load(x, bytes(times(20, 97), "xyz"));
        x.pack(3, 0);
        dueBlock("chunks", x, 0, 18, 6, 20, 0, 1, 1, 2);
        dueBlock("chunks", x, 1, 32, 3, 3, 1, 0, 3, 0);
        x.back();
        x.open(3);
        dueBlock("chunks opened", x, 0, 18, 6, 20, 0, 1, 1, 2);
        dueBlock("chunks opened", x, 1, 32, 3, 3, 1, 0, 3, 0);
        x.open(1);
        due("13 an empty row has none", x.block(0, 0), NONE);
    }

    private static void longestAndNear() {
        Counted x = withWords(bytes("abcde"));
        due("14 of no input", x.longest(0), BAD);
        due("15 of no input", x.near(0, 1), BAD);
        load(x, bytes("deabcxabcdeabcdq"));
        due("14 over the border", x.longest(0), 2);
        due("14 of the dictionary", x.longest(2), 3);
        due("14 none", x.longest(5), 0);
        due("14 the longest", x.longest(6), 5);
        due("14 the longest", x.longest(11), 4);
        due("14 none at the end", x.longest(15), 0);
        due("14 below 0", x.longest(-1), BAD);
        due("14 behind", x.longest(16), BAD);
        due("15 the nearest of 3", x.near(6, 3), 4);
        due("15 the nearest of 5", x.near(6, 5), 11);
        due("15 none of 6", x.near(6, 6), NONE);
        due("15 of 4", x.near(11, 4), 5);
        due("15 to the end", x.near(11, 5), NONE);
        due("15 too many", x.near(11, 6), BAD);
        due("15 k 0", x.near(11, 0), BAD);
        due("15 p -1", x.near(-1, 1), BAD);
        due("15 p behind", x.near(16, 1), BAD);
        due("15 k far", x.near(1, Integer.MAX_VALUE), BAD);
        load(x, times(100, 98));
        due("14 beyond itself", x.longest(1), 99);
        due("15 beyond itself", x.near(1, 99), 1);
        due("14 at the first", x.longest(0), 1);
        due("15 at the first", x.near(0, 1), 4);
        due("14 nothing changes", x.told(0), 100);
        load(x, unlike(1000));
        x.dictionary();
        load(x, bytes(times(3990, 255), unlike(10)));
        due("14 the farthest", x.longest(3990), 10);
        due("15 the farthest", x.near(3990, 10), 4990);
    }

    private static void sum() {
        Counted x = new Counted();
        due("16 of none", x.sum(0), 46947589L);
        due("16 CRC of none", x.sum(1), 0);
        due("16 masked of none", x.sum(2), 2726488792L);
        due("16 -1", x.sum(-1), BAD);
        due("16 3", x.sum(3), BAD);
        int[] digits = bytes("123456789");
        opens(x, 0, digits, 0x90, digits);
        due("16 of nine digits", x.sum(0), 0x937bad67L);
        due("16 CRC of nine digits", x.sum(1), 0xE3069283L);
        due("16 masked", x.sum(2), 0xc78ab0e5L);
        for (int n : new int[] {1, 3, 4, 15, 16, 17, 31, 32, 33, 400}) {
            x = with(unlike(n));
            int bytes = x.pack(3, 0);
            List<Integer> all = new ArrayList<>();
            for (int i = 0; i < bytes; i++) {
                all.add(x.out(i));
            }
            due("16 of " + all.size(), x.sum(0), PlainModel.sumOf(all));
            due("16 CRC of " + all.size(), x.sum(1), PlainModel.crc(all));
            due("16 masked of " + all.size(), x.sum(2), PlainModel.masked(all));
        }
    }

    private static void bound() {
        Counted x = new Counted();
        due("17 form 0 of 0", x.bound(0, 0), 16);
        due("17 form 0 of 254", x.bound(0, 254), 270);
        due("17 form 0 of 255", x.bound(0, 255), 272);
        due("17 form 0 of the most", x.bound(0, Integer.MAX_VALUE), 2147483647L + 8421504 + 16);
        due("17 form 2 of 0", x.bound(2, 0), 32);
        due("17 form 2 of 5", x.bound(2, 5), 37);
        due("17 form 2 of 6", x.bound(2, 6), 39);
        due("17 form 2 of the most", x.bound(2, Integer.MAX_VALUE), 2147483647L + 357913941 + 32);
        due("17 form 1", x.bound(1, 5), BAD);
        due("17 form 3", x.bound(3, 5), BAD);
        due("17 form -1", x.bound(-1, 5), BAD);
        due("17 below 0", x.bound(0, -1), BAD);
        due("17 below 0", x.bound(2, Integer.MIN_VALUE), BAD);
    }

    private static void told() {
        Counted x = withWords(bytes("abcd"));
        load(x, bytes("abcdef"));
        due("18 input", x.told(0), 6);
        due("18 out", x.told(1), 0);
        due("18 dictionary", x.told(2), 4);
        due("18 blocks", x.told(3), 0);
        x.pack(0, 0);
        due("18 input", x.told(0), 0);
        due("18 out", x.told(1), 7);
        due("18 blocks", x.told(3), 1);
        due("18 -1", x.told(-1), BAD);
        due("18 4", x.told(4), BAD);
    }
}
