import java.util.Arrays;

/**
 * The boundary cases of the document, sentence by sentence and in its order, as far as PromiseTest does not have them;
 * src/test/EDGES.md tells which test has which. No object is used for more calls than the document allows.
 */
public final class EdgeTest extends Due {
    private static final int[] END = {0, 0, 0, 0};
    private static final int[] FIRST = bytes(255, 6, 0, 0, "sNaPpY");
    // Of these 57 bytes of form 0 come 12,000.
    private static final int[] MOST = bytes(0x1F, "a", 1, 0, times(46, 255), 245, 0x50, "bcdef");

    public static void main(String[] args) {
        callsOfAnObject();
        numbersHaveNoSign();
        firstThatIsNamed();
        lengthsOfSequences();
        endsOfSequences();
        marksOfFrames();
        whatFlagsTell();
        widthsOfFrames();
        sizesAndSumsOfFrames();
        leaning();
        countsOfElements();
        literalsOfElements();
        copiesOfElements();
        kindsOfChunks();
        sums();
        matchesOfSequences();
        matchesOfElements();
        levelOne();
        piecesOfCopies();
        fewestBytesOfSequences();
        fewestBytesOfElements();
        blocksOfBytes();
        whatLacksInFrames();
        whatLacksInChunks();
        orderInSequences();
        orderInFrames();
        orderInElements();
        orderInChunks();
        inputAndOut();
        roomBehindTheOut();
        blocksThatAreTold();
        longestAndNear();
        end();
    }

    // ---- asking

    private static String named(int form, int[] some) {
        return "form " + form + " " + list(some.length > 60 ? Arrays.copyOf(some, 60) : some);
    }

    private static void opens(int form, int[] want, Object... parts) {
        opensBy(new Counted(), form, want, parts);
    }

    private static void opensBy(Counted x, int form, int[] want, Object... parts) {
        int[] some = bytes(parts);
        String what = named(form, some);
        due(what, x.load(some).open(form), want.length);
        due(what + ": the rule", x.rule(0), 0);
        due(what + ": its place", x.rule(1), NONE);
        x.holds(what, want);
    }

    private static void breaks(int form, int rule, int place, Object... parts) {
        breaksBy(new Counted(), form, rule, place, parts);
    }

    private static void breaksBy(Counted x, int form, int rule, int place, Object... parts) {
        int[] some = bytes(parts);
        String what = named(form, some);
        due(what, x.load(some).open(form), -10 - rule);
        due(what + ": the rule", x.rule(0), rule);
        due(what + ": its place", x.rule(1), place);
    }

    private static void packs(int form, int level, int[] some, Object... want) {
        packsBy(new Counted(), form, level, some, want);
    }

    private static void packsBy(Counted x, int form, int level, int[] some, Object... parts) {
        int[] want = bytes(parts);
        String what = "level " + level + ", " + named(form, some);
        due(what, x.load(some).pack(form, level), want.length);
        x.holds(what, want);
        if (want.length > 4000) {
            due(what + ": back", x.back(), FULL);
            return;
        }
        due(what + ": back", x.back(), want.length);
        due(what + ": open", x.open(form), some.length);
        x.holds(what + ": open", some);
    }

    private static Counted leaningOn(Object... words) {
        return new Counted().loadWords(bytes(words));
    }

    // ---- the head and the terms

    /** "An object is used for at most 512 calls": the 512th still answers as due. */
    private static void callsOfAnObject() {
        int[] some = unlike(4000);
        Counted x = new Counted().loadWords(unlike(1000));
        due("512 calls: pack", x.load(some).pack(0, 2) < 4000, true);
        x.back();
        due("512 calls: open", x.open(0), 4000);
        for (int i = 0; x.calls() < Counted.MOST_CALLS - 1; i++) {
            due("512 calls: out(" + i + ")", x.out(i), some[i]);
        }
        due("the 512th call", x.sum(0), PlainModel.sumOf(list(some)));
        due("512 calls", x.calls(), 512);
    }

    private static void due(String what, boolean got, boolean want) {
        due(what, got ? 1 : 0, want ? 1 : 0);
    }

    /** "Numbers of several bytes lie lowest byte first and have no sign." */
    private static void numbersHaveNoSign() {
        int[] some = unlike(300);
        opens(0, bytes(some, 0, 0, 0, 255, 1, 0, 7, 255, "vwxyz"), 0xF4, 255, 30, some, 44, 1, 0x50, "vwxyz");
        breaks(0, 2, 303, 0xF4, 255, 30, some, 45, 1, 0x50, "vwxyz");
        breaks(0, 2, 2, 0x10, "a", 1, 128, 0x50, "vwxyz");
        breaks(0, 2, 2, 0x10, "a", 255, 255, 0x50, "vwxyz");
        for (int bit = 1; bit < 64; bit++) {
            breaks(1, 9, 15, head(104, 64, number(1L << bit, 8)), END);
        }
        for (int bit = 1; bit < 32; bit++) {
            breaks(1, 1, 8, 80, 42, 77, 24, number(1L << bit, 4));
            breaks(2, 2, 3, 5, 0, "a", 3 * 4 + 3, number(1L << bit, 4));
            breaks(2, 14, 1, 1, 252, number(1L << bit, 4), "a");
        }
        for (int bit = 1; bit < 24; bit++) {
            breaks(3, 1, 15, FIRST, 128, number(1 << bit, 3), "x");
            breaks(2, 14, 1, 1, 248, number(1 << bit, 3), "a");
        }
        for (int bit = 0; bit < 32; bit++) {
            int id = 1 << bit;
            Counted x = new Counted();
            x.set(5, id);
            opensBy(x, 1, bytes(), head(97, 64, number(id, 4)), END);
            breaksBy(x, 1, 11, 6, head(97, 64, number(id ^ 1 << (bit + 7) % 32, 4)), END);
        }
    }

    /** "Of several the first that a comment names": BAD before FULL, BAD before NONE. */
    private static void firstThatIsNamed() {
        Counted x = new Counted().load(MOST);
        due("no room is left", x.open(0), 12000);
        x.load(bytes("abc"));
        due("more(): BAD form", x.more(0, 0), BAD);
        due("more(): BAD form", x.more(2, 0), BAD);
        due("more(): BAD level", x.more(1, 3), BAD);
        due("more(): BAD level", x.more(3, -1), BAD);
        due("more(): FULL", x.more(1, 0), FULL);
        due("more(): FULL", x.more(3, 0), FULL);
        due("skip(): BAD kind", x.skip(1, 96), BAD);
        due("skip(): BAD kind", x.skip(3, 255), BAD);
        due("skip(): BAD form", x.skip(2, 128), BAD);
        due("skip(): FULL", x.skip(1, 80), FULL);
        due("skip(): FULL", x.skip(3, 128), FULL);
        due("block(): BAD", x.block(1, 7), BAD);
        due("block(): NONE", x.block(1, 6), NONE);
        due("near(): BAD", x.near(0, 4), BAD);
        due("near(): NONE", x.near(0, 3), NONE);
        due("near(): BAD", x.near(0, 0), BAD);
    }

    // ---- 1 SEQUENCES

    /** "If L is 15, bytes that are added to L, up to the first one below 255"; M likewise. */
    private static void lengthsOfSequences() {
        int[][] lengths = {{0, 0}, {1, 1}, {14, 14}, {15, 15, 0}, {16, 15, 1}, {269, 15, 254}, {270, 15, 255, 0},
            {524, 15, 255, 254}, {525, 15, 255, 255, 0}};
        for (int[] length : lengths) {
            int[] added = Arrays.copyOfRange(length, 2, length.length);
            int[] some = unlike(length[0]);
            packs(0, 0, some, 16 * length[1], added, some);
            packs(0, 2, some, 16 * length[1], added, some);
            opens(0, bytes(times(length[0] + 5, 97), unlike(8)), 0x10 + length[1], 97, 1, 0, added, 0x80, unlike(8));
            if (length[0] >= 3) {
                packs(0, 0, bytes(times(length[0] + 5, 97), "bcdef"), 0x10 + length[1], 97, 1, 0, added, 0x50, "bcdef");
                packs(0, 2, bytes(times(length[0] + 5, 97), "bcdef"), 0x10 + length[1], 97, 1, 0, added, 0x50, "bcdef");
            }
        }
        // All that there is room for.
        for (int level = 0; level <= 2; level++) {
            packs(0, level, unlike(4000), 0xF0, times(15, 255), 160, unlike(4000));
            packs(0, level, times(4000, 97), 0x1F, 97, 1, 0, times(15, 255), 150, 0x50, times(5, 97));
        }
    }

    /** AT THE END, and "The LAST SEQUENCE ends behind its LITERALS; its M is 0". */
    private static void endsOfSequences() {
        for (int n = 0; n <= 14; n++) {
            // Without a copy any number of literals will do; with one there are 5 at least.
            opens(0, unlike(n), 16 * n, unlike(n));
            for (int m = 1; m <= 15; m++) {
                breaks(0, 3, 0, 16 * n + m, unlike(n));
            }
            int[] copied = bytes(0x1F, "a", 1, 0, 0, 16 * n, unlike(n));
            if (n < 5) {
                breaks(0, 3, 5, copied);
            } else {
                opens(0, bytes(times(20, 97), unlike(n)), copied);
            }
        }
        // The last copy begins 11 or 12 bytes before the end, by its own length and by the literals behind it.
        for (int literals = 5; literals <= 8; literals++) {
            int copy = 12 - literals;
            opens(0, bytes(times(1 + copy, 97), unlike(literals)),
                    0x10 + copy - 4, "a", 1, 0, 16 * literals, unlike(literals));
            breaks(0, 3, 4, 0x10 + copy - 4, "a", 1, 0, 16 * literals - 16, unlike(literals - 1));
        }
        breaks(0, 3, 4, 0x12, "a", 1, 0, 0x50, "bcdef");
        // It is the last copy that is asked, not the one before: they begin 11 and 15 bytes before the end, 12 and 16.
        breaks(0, 3, 7, 0x10, "a", 1, 0, 2, 1, 0, 0x50, "bcdef");
        opens(0, bytes(times(12, 97), "bcdef"), 0x10, "a", 1, 0, 3, 1, 0, 0x50, "bcdef");
    }

    // ---- 2 FRAMES

    /** "4, 34, 77, 24", "80 to 95, 42, 77, 24", and RULE 4 "when its four bytes are there". */
    private static void marksOfFrames() {
        int[] plain = head(96, 64);
        for (int i = 0; i < 4; i++) {
            for (int change : new int[] {1, 128}) {
                int[] frame = plain.clone();
                frame[i] ^= change;
                breaks(1, 4, 0, frame, END);
                int[] piece = bytes(88, 42, 77, 24, END);
                piece[i] ^= change;
                if (i > 0 || change == 128) {
                    breaks(1, 4, 0, piece);
                }
            }
        }
        for (int kind = 80; kind <= 95; kind++) {
            opens(1, bytes(), kind, 42, 77, 24, END);
            breaks(1, 4, 0, kind, 34, 77, 24, END);
        }
        breaks(1, 4, 0, 4, 42, 77, 24, END);
        breaks(1, 4, 0, 79, 42, 77, 24, END);
        breaks(1, 4, 0, 96, 42, 77, 24, END);
        for (int n = 1; n <= 3; n++) {
            breaks(1, 1, n, times(n, 9));
            breaks(1, 1, 8 + n, 80, 42, 77, 24, END, times(n, 9));
        }
        breaks(1, 4, 8, 80, 42, 77, 24, END, times(4, 9));
    }

    /** "What FLAGS do not tell is not there": each one by itself, and none. */
    private static void whatFlagsTell() {
        int[] some = bytes("abc");
        int[] raw = bytes(3, 0, 0, 128, some);
        packs(1, 0, some, head(96, 64), raw, END);
        packsBy(withSet(1, 1), 1, 0, some, head(64, 64), raw, END);
        packsBy(withSet(2, 1), 1, 0, some, head(112, 64), raw, sumOf(some), END);
        packsBy(withSet(3, 1), 1, 0, some, head(104, 64, number(3, 8)), raw, END);
        packsBy(withSet(4, 1), 1, 0, some, head(100, 64), raw, END, sumOf(some));
        for (int id : new int[] {1, -1, Integer.MIN_VALUE, Integer.MAX_VALUE}) {
            packsBy(withSet(5, id), 1, 0, some, head(97, 64, number(id, 4)), raw, END);
        }
        // Of nothing: no BLOCK, the SIZE 0, the SUM of no bytes.
        Counted x = withSet(4, 1);
        x.set(3, 1);
        x.set(2, 1);
        packsBy(x, 1, 0, bytes(), head(124, 64, number(0, 8)), END, number(46947589, 4));
        due("no BLOCKS", x.told(3), 0);
        for (int flags = 0; flags < 256; flags++) {
            boolean right = flags >= 64 && flags < 128 && (flags & 2) == 0;
            if (right) {
                breaks(1, 1, 5, 4, 34, 77, 24, flags);
            } else {
                breaks(1, 5, 4, 4, 34, 77, 24, flags);
            }
        }
    }

    private static Counted withSet(int what, int v) {
        Counted x = new Counted();
        x.set(what, v);
        return x;
    }

    /** "16 W, W 4 to 7", and RULE 7 "a BLOCK of more than 2^(8 + 2 W) bytes". */
    private static void widthsOfFrames() {
        for (int w = 0; w < 256; w++) {
            if (w == 64 || w == 80 || w == 96 || w == 112) {
                opens(1, bytes("abc"), head(96, w), 3, 0, 0, 128, "abc", END);
            } else {
                breaks(1, 5, 5, head(96, w), END);
            }
        }
        int[] most = {65536, 262144, 1048576, 4194304};
        for (int i = 0; i < 4; i++) {
            int[] plain = head(96, 64 + 16 * i);
            for (long raw = 0; raw <= 1; raw++) {
                breaks(1, 1, 12, plain, number(most[i] + (raw << 31), 4), "x");
                breaks(1, 7, 7, plain, number(most[i] + 1 + (raw << 31), 4), "x");
                breaks(1, 7, 7, plain, number((1L << 31) - 1 + (raw << 31), 4), "x");
            }
        }
    }

    /** RULES 8, 9, 10: one too few, one too many, of none, and each byte of a sum. */
    private static void sizesAndSumsOfFrames() {
        int[] raw = bytes(3, 0, 0, 128, "abc");
        breaks(1, 9, 22, head(104, 64, number(2, 8)), raw, END);
        opens(1, bytes("abc"), head(104, 64, number(3, 8)), raw, END);
        breaks(1, 9, 22, head(104, 64, number(4, 8)), raw, END);
        breaks(1, 9, 22, head(104, 64, number(0, 8)), raw, END);
        breaks(1, 9, 22, head(104, 64, number(-1, 8)), raw, END);
        opens(1, bytes(), head(104, 64, number(0, 8)), END);
        breaks(1, 9, 15, head(104, 64, number(1, 8)), END);
        for (int i = 0; i < 4; i++) {
            int[] sum = sumOf(bytes("abc"));
            sum[i] ^= 128 >> i;
            breaks(1, 8, 14, head(112, 64), raw, sum, END);
            breaks(1, 10, 18, head(100, 64), raw, END, sum);
            int[] crc = crcOf(bytes("abc"));
            crc[i] ^= 128 >> i;
            breaks(3, 8, 14, FIRST, 1, 7, 0, 0, crc, "abc");
            breaks(3, 8, 14, FIRST, 0, 9, 0, 0, crc, 3, 8, "abc");
        }
        for (int change = 1; change < 256; change++) {
            int[] plain = head(96, 64);
            plain[6] ^= change;
            breaks(1, 6, 6, plain, END);
        }
        opens(1, bytes(), head(116, 64), bytes(0, 0, 0, 128), sumOf(bytes()), END, sumOf(bytes()));
    }

    /** "on THE DICTIONARY; if they lean on each other, on THE DICTIONARY and, behind it, all that came". */
    private static void leaning() {
        // 11,980 come of the first block, and 1,000 bytes are before them.
        int[] words = unlike(1000);
        int[] first = bytes(57, 0, 0, 0, 0x1F, "a", 1, 0, times(46, 255), 225, 0x50, "bcdef");
        int[] came = bytes(times(11975, 97), "bcdef");
        Counted x = leaningOn(words);
        opensBy(x, 1, bytes(came, 0, 0, 0, 255, 1, 0, 7, 255, "vwxyz"), head(64, 64), first,
                9, 0, 0, 0, 0x04, number(12980, 2), 0x50, "vwxyz", END);
        breaksBy(x, 1, 2, 73, head(64, 64), first, 9, 0, 0, 0, 0x04, number(12981, 2), 0x50, "vwxyz", END);
        // Blocks that do not lean on each other have the dictionary right before them.
        opensBy(x, 1, bytes(came, 0, 0, 0, 255, 1, 0, 7, 255, "vwxyz"), head(96, 64), first,
                9, 0, 0, 0, 0x04, number(1000, 2), 0x50, "vwxyz", END);
        breaksBy(x, 1, 2, 73, head(96, 64), first, 9, 0, 0, 0, 0x04, number(1001, 2), 0x50, "vwxyz", END);
        // A block by itself: the first byte of the dictionary, the one before it; with none, nothing.
        opensBy(x, 0, bytes(0, 0, 0, 255, 1, 0, 7, 255, "vwxyz"), 0x04, number(1000, 2), 0x50, "vwxyz");
        breaksBy(x, 0, 2, 1, 0x04, number(1001, 2), 0x50, "vwxyz");
        breaks(0, 2, 1, 0x04, 1, 0, 0x50, "vwxyz");
        // A copy that goes from the dictionary's last byte on into what it copied.
        opensBy(x, 0, bytes(times(8, 255), "vwxyz"), 0x04, 1, 0, 0x50, "vwxyz");
        // Elements lean on nothing, neither on the dictionary nor on the chunk before.
        breaksBy(x, 2, 2, 1, 4, 1, 1);
        breaksBy(x, 3, 2, 39, FIRST, 1, 16, 0, 0, crcOf(times(12, 97)), times(12, 97), 0, 7, 0, 0, 1, 2, 3, 4, 4, 1, 1);
    }

    // ---- 3 ELEMENTS

    /** "how many bytes come, as digits of 7 bits", RULES 12 and 13. */
    private static void countsOfElements() {
        for (int n : new int[] {1, 127, 128, 129, 255, 256, 257, 3999, 4000}) {
            int[] digits = n < 128 ? bytes(n) : bytes(128 + n % 128, n / 128);
            int[] told = n <= 60 ? bytes(4 * n - 4) : n <= 256 ? bytes(240, n - 1) : bytes(244, number(n - 1, 2));
            packs(2, 0, unlike(n), digits, told, unlike(n));
        }
        int[] all = bytes(12000 % 128 + 128, 12000 / 128);
        breaks(2, 14, 2, all);
        breaks(2, 12, 0, 12001 % 128 + 128, 12001 / 128);
        breaks(2, 12, 0, 255, 127);
        breaks(2, 12, 0, 128, 128, 1);
        breaks(2, 12, 0, 255, 255, 255, 255, 15);
        breaks(2, 13, 0, 128, 128, 128, 128, 16);
        breaks(2, 13, 0, 255, 255, 255, 255, 127);
        breaks(2, 13, 0, 255, 255, 255, 255, 255, 0);
        breaks(2, 13, 0, 128, 128, 128, 128, 128, 128);
        opens(2, bytes("a"), 129, 128, 128, 128, 0, 0, "a");
        for (int n = 0; n <= 4; n++) {
            breaks(2, 1, n, times(n, 128));
        }
    }

    /** "h + 1 of them, if h is below 60; of 60, 61, 62, 63: 1 more than the number in the next 1, 2, 3, 4 bytes". */
    private static void literalsOfElements() {
        opens(2, bytes("a"), 1, 0, "a");
        opens(2, unlike(60), 60, 59 * 4, unlike(60));
        for (int bytes = 1; bytes <= 4; bytes++) {
            int first = 4 * (59 + bytes);
            opens(2, bytes("a"), 1, first, number(0, bytes), "a");
            opens(2, unlike(256), 128, 2, first, number(255, bytes), unlike(256));
            if (bytes > 1) {
                opens(2, unlike(257), 129, 2, first, number(256, bytes), unlike(257));
            }
            for (int there = 0; there < bytes; there++) {
                breaks(2, 1, 2 + there, 1, first, times(there, 0));
            }
            // The most that can be told is too many; so is one more than is told.
            breaks(2, 14, 1, 1, first, times(bytes, 255));
            breaks(2, 14, 1, 1, first, number(1, bytes), "ab");
            breaks(2, 1, 3 + bytes, 2, first, number(1, bytes), "a");
        }
    }

    /** The shortest and longest COPY of each kind, its nearest and farthest OFFSET. */
    private static void copiesOfElements() {
        int[] some = unlike(2047);
        int[] told = bytes(244, number(2046, 2), some);
        for (int length = 4; length <= 11; length++) {
            int h = length - 4;
            int n = 2047 + length;
            opens(2, bytes(some, Arrays.copyOf(some, length)), 128 + n % 128, n / 128, told,
                    32 * 7 + 4 * h + 1, 255);
            opens(2, times(1 + length, 97), 1 + length, 0, 97, 4 * h + 1, 1);
            breaks(2, 2, 3, 1 + length, 0, 97, 4 * h + 1, 0);
            breaks(2, 2, 3, 1 + length, 0, 97, 4 * h + 1, 2);
            breaks(2, 14, 3, length, 0, 97, 4 * h + 1, 1);
        }
        breaks(2, 2, 2051, 128 + 2050 % 128, 2050 / 128, 244, number(2045, 2), unlike(2046), 32 * 7 + 1, 255);
        for (int kind = 2; kind <= 3; kind++) {
            int bytes = 2 * kind - 2;
            for (int length : new int[] {1, 2, 3, 4, 63, 64}) {
                int first = 4 * (length - 1) + kind;
                int n = 2047 + length;
                opens(2, bytes(some, Arrays.copyOf(some, length)), 128 + n % 128, n / 128, told,
                        first, number(2047, bytes));
                breaks(2, 2, 2 + told.length, 128 + n % 128, n / 128, told, first, number(2048, bytes));
                opens(2, times(1 + length, 97), 1 + length, 0, 97, first, number(1, bytes));
                breaks(2, 2, 3, 1 + length, 0, 97, first, number(0, bytes));
                breaks(2, 14, 3, length, 0, 97, first, number(1, bytes));
            }
            for (int there = 0; there < bytes; there++) {
                breaks(2, 1, 4 + there, 9, 0, 97, kind, times(there, 0));
            }
        }
    }

    // ---- 4 CHUNKS

    /** The KINDS from 0 to 255, behind the first CHUNK and as it; RULES 4 and 15. */
    private static void kindsOfChunks() {
        for (int kind = 0; kind < 256; kind++) {
            if (kind < 255) {
                breaks(3, 4, 0, kind, 6, 0, 0, "sNaPpY");
                breaks(3, 4, 0, kind);
            }
            if (kind < 128) {
                for (int n = 0; n < 4; n++) {
                    breaks(3, 15, 10, FIRST, kind, n, 0, 0, times(n, 7));
                }
            } else if (kind < 255) {
                opens(3, bytes(), FIRST, kind, 0, 0, 0);
                opens(3, bytes("a"), FIRST, kind, 3, 0, 0, "xyz", 1, 5, 0, 0, crcOf(bytes("a")), "a");
            }
            if (kind > 1 && kind < 128) {
                breaks(3, 15, 10, FIRST, kind, 4, 0, 0, times(4, 7));
            }
        }
        for (int n = 0; n < 9; n++) {
            if (n != 6) {
                breaks(3, 4, 0, 255, n, 0, 0, "sNaPpYxxx");
                breaks(3, 4, 10, FIRST, 255, n, 0, 0, "sNaPpYxxx");
            }
        }
        for (int i = 4; i < 10; i++) {
            int[] first = FIRST.clone();
            first[i] ^= 32;
            breaks(3, 4, 0, first);
            breaks(3, 4, 10, FIRST, first);
        }
        opens(3, bytes(), FIRST, 1, 4, 0, 0, crcOf(bytes()));
        breaks(3, 1, 18, FIRST, 0, 4, 0, 0, crcOf(bytes()));
        opens(3, bytes(), FIRST, 0, 5, 0, 0, crcOf(bytes()), 0);
    }

    // ---- 5 SUMS

    /** Below 16 bytes, 16 and more, 4s and single ones left: as the published libraries answer, of (37 i + 11) % 256. */
    private static void sums() {
        long[][] published = {{0, 46947589L, 0L, 2726488792L}, {1, 1072013981L, 3421829226L, 2472051393L},
            {2, 2025323278L, 1752257858L, 1292352442L}, {3, 1075949352L, 2525069696L, 2776897499L},
            {4, 515436826L, 3395786141L, 3451813799L}, {5, 129620861L, 3012314163L, 719999472L},
            {7, 35811303L, 3539327504L, 1453625539L}, {8, 2634197148L, 4002012867L, 1611319275L},
            {12, 3557794816L, 3550372915L, 1793757716L}, {15, 371820267L, 2569816234L, 869801264L},
            {16, 2527895462L, 2366590174L, 1010828534L}, {17, 1021292962L, 3858199417L, 2306258630L},
            {19, 3201671402L, 3460293079L, 1714587479L}, {20, 1116669185L, 4257605388L, 1889330787L},
            {31, 3750051775L, 1431883056L, 1021547913L}, {32, 3665851100L, 3332153021L, 3757996049L},
            {33, 1016057981L, 1682239304L, 2165551969L}, {47, 246006161L, 2626569574L, 760226804L},
            {48, 2582514152L, 3774132189L, 37661889L}, {63, 12521669L, 2276978664L, 2186541639L}};
        for (long[] row : published) {
            int n = (int) row[0];
            int[] some = new int[n];
            for (int i = 0; i < n; i++) {
                some[i] = (37 * i + 11) % 256;
            }
            Counted x = new Counted().load(bytes(n < 15 ? bytes(16 * n) : bytes(240, n - 15), some));
            due("as many", x.open(0), n);
            for (int which = 0; which <= 2; which++) {
                due("sum(" + which + ") of " + n, x.sum(which), row[1 + which]);
            }
        }
        Counted x = new Counted();
        x.load(bytes(0xF0, 24, "Nobody inspects the spammish repetition")).open(0);
        due("THE SUM of a published text", x.sum(0), 0xE2293B2FL);
        // All that there is room for, each byte 255: all wraps.
        x.load(bytes(0x1F, 255, 1, 0, times(46, 255), 245, 0x50, times(5, 255)));
        due("12,000", x.open(0), 12000);
        due("THE SUM of 12,000", x.sum(0), 0x52CF777CL);
        due("THE CRC of 12,000", x.sum(1), 0x2A34A08EL);
        due("the MASKED CRC of 12,000", x.sum(2), 0xE39F3F41L);
    }

    // ---- 6 PACKING

    /** "k is 4 at least, p is at most n - 12, p + k at most n - 5". */
    private static void matchesOfSequences() {
        for (int level = 0; level <= 2; level++) {
            packs(0, level, bytes("abc1abc23456789XY"), 0xF0, 2, "abc1abc23456789XY");
            packs(0, level, bytes("abcd1abcd2345678"), 0xF0, 1, "abcd1abcd2345678");
            packs(0, level, bytes("abcd1abcd23456789"), 0x50, "abcd1", 5, 0, 0x80, "23456789");
            // What stands twice up to the end: ten bytes begin too late; of twelve as many are copied as leave five.
            packs(0, level, bytes("abcdefghij1abcdefghij"), 0xF0, 6, "abcdefghij1abcdefghij");
            packs(0, level, bytes("abcdefghijkl1abcdefghijkl"), 0xD3, "abcdefghijkl1", 13, 0, 0x50, "hijkl");
            // By a dictionary: at place 0 of 12, of which 7 can be copied; of 11 none.
            packsBy(leaningOn("abcdefghijkl"), 0, level, bytes("abcdefghijkl"), 3, 12, 0, 0x50, "hijkl");
            packsBy(leaningOn("abcdefghijkl"), 0, level, bytes("abcdefghijk"), 0xB0, "abcdefghijk");
            // The nearest of two; from the dictionary on into the block.
            packsBy(leaningOn("abcdX", "abcdY"), 0, level, bytes("abcd23456789"), 0, 5, 0, 0x80, "23456789");
            packsBy(leaningOn("ab"), 0, level, bytes("abababab12345"), 4, 2, 0, 0x50, "12345");
            // The farthest: at n - 12 from the dictionary's first byte on.
            int[] far = bytes(unlike(3988), "qrst", times(8, 254));
            packsBy(leaningOn("qrst", times(996, 255)), 0, level, far, 0xF0, times(15, 255), 3988 - 15 - 15 * 255,
                    unlike(3988), number(4988, 2), 0x80, times(8, 254));
        }
    }

    /** "In ELEMENTS k is 4 at least, at LEVEL 2 it is 1 to 64"; a MATCH may reach the end. */
    private static void matchesOfElements() {
        for (int level = 0; level <= 1; level++) {
            packs(2, level, bytes("abc1abc"), 7, 24, "abc1abc");
            packs(2, level, bytes("abcd1abcd"), 9, 16, "abcd1", 1, 5);
            packs(2, level, bytes("aaaaa"), 5, 0, "a", 1, 1);
        }
        packs(2, 2, bytes("abc1abc"), 7, 12, "abc1", 10, 4, 0);
        packs(2, 2, bytes("ab1ab"), 5, 16, "ab1ab");
        packs(2, 2, bytes("abcd1abcd"), 9, 16, "abcd1", 1, 5);
        packs(2, 2, bytes("aaa"), 3, 8, "aaa");
    }

    /** "a byte is a LITERAL also if the longest MATCH at the next place is longer than that here". */
    private static void levelOne() {
        int[] words = bytes("abcd?bcdefgh");
        // At n - 11 there is no MATCH, however much stands there.
        packsBy(leaningOn(words), 0, 1, bytes("abcdefghijkl"), 0, 12, 0, 0x80, "efghijkl");
        packsBy(leaningOn(words), 0, 1, bytes("abcdefghijklm"), 0x13, "a", 8, 0, 0x50, "ijklm");
        packsBy(leaningOn(words), 0, 0, bytes("abcdefghijklm"), 0, 12, 0, 0x90, "efghijklm");
        // One byte longer, again one longer, then as long: the bytes before are literals, however many they are.
        words = bytes("abcd!", "bcdef!", "cdefgh!", "defghi!");
        int[] some = bytes("abcdefghi", "1234567890");
        packsBy(leaningOn(words), 0, 0, some, 0, 25, 0, 1, 10, 0, 0xA0, "1234567890");
        packsBy(leaningOn(words), 0, 1, some, 0x22, "ab", 16, 0, 0xB0, "i1234567890");
    }

    /** "of 64 as long as 68 or more are left; then of 60, if more than 64 are; then of what is left". */
    private static void piecesOfCopies() {
        int[] copy64 = {254, 1, 0};
        int[] copy60 = {238, 1, 0};
        for (int level = 0; level <= 1; level++) {
            packs(2, level, times(64, 97), 64, 0, 97, 250, 1, 0);
            packs(2, level, times(65, 97), 65, 0, 97, copy64);
            packs(2, level, times(66, 97), 66, 0, 97, copy60, 4 + 1, 1);
            packs(2, level, times(67, 97), 67, 0, 97, copy60, 8 + 1, 1);
            packs(2, level, times(68, 97), 68, 0, 97, copy60, 12 + 1, 1);
            packs(2, level, times(69, 97), 69, 0, 97, copy64, 1, 1);
            packs(2, level, times(129, 97), 129, 1, 0, 97, copy64, copy64);
            packs(2, level, times(130, 97), 130, 1, 0, 97, copy64, copy60, 4 + 1, 1);
            packs(2, level, times(132, 97), 132, 1, 0, 97, copy64, copy60, 12 + 1, 1);
            packs(2, level, times(133, 97), 133, 1, 0, 97, copy64, copy64, 1, 1);
        }
    }

    /** LEVEL 2 in SEQUENCES: literals and copies of just as many bytes as one more would make dearer. */
    private static void fewestBytesOfSequences() {
        for (int length : new int[] {19, 274}) {
            // A copy of one byte less, and one that begins a byte before, instead of the longest.
            int[] x = unlike(length);
            int last = x[length - 1];
            int[] before = bytes(x, "Z", last, "pqrsW");
            int[] some = bytes(before, x, "pqrs", "tuvwxyz!");
            int n = before.length;
            int[] added = n < 270 ? bytes(n - 15) : bytes(255, n - 270);
            int back = n - 2;
            packs(0, 0, some, 0xFF, added, before, number(n, 2), length == 19 ? bytes(0) : bytes(255, 0),
                    0, number(back, 2), 0x80, "tuvwxyz!");
            packs(0, 2, some, length == 19 ? 0xFE : 0xFF, added, before, number(n, 2), length == 19 ? bytes() : bytes(254),
                    1, number(back, 2), 0x80, "tuvwxyz!");
        }
        for (int literals : new int[] {14, 269}) {
            fewestLiterals(literals);
        }
        // A copy of 4 between 15 literals and 15 takes as much as they all: the fewest literals before a copy.
        int[] some = bytes("abcd", 0, "1234567890", "abcd", "ABCDEFGHIJKLMNO");
        packs(0, 2, some, 0xF0, 0, "abcd", 0, "1234567890", 15, 0, 0xF0, 0, "ABCDEFGHIJKLMNO");
    }

    /** One literal more takes two bytes: a copy that is two bytes shorter takes as much, one that is three does not. */
    private static void fewestLiterals(int literals) {
        int[] u = unlike(literals);
        int[] some = bytes(u, "abcdefghijk", "vwxyzVW");
        int[] token14 = literals == 14 ? bytes(0xE5) : bytes(0xF5, 254);
        int[] token15 = literals == 14 ? bytes(0xF6, 0) : bytes(0xF6, 255, 0);
        packsBy(leaningOn("abcdefghi!bcdefghijk"), 0, 2, some,
                token14, u, number(20 + literals, 2), 0x90, "jkvwxyzVW");
        packsBy(leaningOn("abcdefgh!bcdefghijk"), 0, 2, some,
                token15, u, "a", number(11 + literals, 2), 0x70, "vwxyzVW");
        // With a literal less the longer copy is cheaper.
        int[] less = unlike(literals - 1);
        packsBy(leaningOn("abcdefghi!bcdefghijk"), 0, 2, bytes(less, "abcdefghijk", "vwxyzVW"),
                literals == 14 ? bytes(0xE6) : bytes(0xF6, 254), less, "a", number(10 + literals, 2), 0x70, "vwxyzVW");
    }

    /** LEVEL 2 in ELEMENTS: where literals take one more byte, a copy of 2 takes as much. */
    private static void fewestBytesOfElements() {
        for (int n : new int[] {60, 61, 62, 63, 256, 257, 258, 259}) {
            int[] before = new int[n - 2];
            for (int i = 0; i < n - 2; i++) {
                before[i] = i % 256;
            }
            int[] some = bytes(before, 5, 6);
            int[] digits = n < 128 ? bytes(n) : bytes(128 + n % 128, n / 128);
            if (n % 4 == 0 || n % 4 == 3) {
                packs(2, 2, some, digits, literalsHead(n), some);
            } else {
                packs(2, 2, some, digits, literalsHead(n - 2), before, 6, number(n - 2 - 5, 2));
            }
        }
        int[] copy64 = {254, 1, 0};
        packs(2, 2, times(65, 97), 65, 0, 97, copy64);
        packs(2, 2, times(76, 97), 76, 0, 97, copy64, 7 * 4 + 1, 1);
        packs(2, 2, times(77, 97), 77, 0, 97, copy64, 11 * 4 + 2, 1, 0);
        packs(2, 2, times(100, 97), 100, 0, 97, copy64, 34 * 4 + 2, 1, 0);
        int[] many = new int[62 * 3];
        for (int i = 0; i < many.length; i++) {
            many[i] = copy64[i % 3];
        }
        for (int level = 0; level <= 2; level++) {
            packs(2, level, times(3980, 97), 128 + 3980 % 128, 31, 0, 97, many, 7 * 4 + 1, 1);
            packs(2, level, times(4000, 97), 128 + 4000 % 128, 31, 0, 97, many, 30 * 4 + 2, 1, 0);
        }
        // Four bytes nearby and five from the next one on are cheaper than five from far and four.
        int[] between = bytes(unlike(2039), 254);
        packs(2, 2, bytes("wxyz!", between, "wxyz", "?!PQRS.", "wxyz!PQRS"), 128 + 2065 % 128, 2065 / 128,
                244, number(2044, 2), "wxyz!", between, 32 * 7 + 1, 2045 % 256, 24, "?!PQRS.", 1, 11, 4 + 1, 10);
    }

    private static int[] literalsHead(int n) {
        return n <= 60 ? bytes(4 * (n - 1)) : n <= 256 ? bytes(240, n - 1) : bytes(244, number(n - 1, 2));
    }

    /** "FRAMES have BLOCKS of BLOCK bytes, the last one of what is left"; "CHUNKS likewise". */
    private static void blocksOfBytes() {
        int[][] parts = {{}, {15}, {16}, {16, 1}, {16, 15}, {16, 16}, {16, 16, 1}};
        for (int[] part : parts) {
            Object[] frame = new Object[part.length];
            Object[] chunks = new Object[part.length];
            int n = 0;
            for (int i = 0; i < part.length; i++) {
                int[] block = Arrays.copyOfRange(unlike(40), n, n + part[i]);
                frame[i] = bytes(part[i], 0, 0, 128, block);
                chunks[i] = bytes(1, part[i] + 4, 0, 0, crcOf(block), block);
                n += part[i];
            }
            Counted x = withSet(0, 16);
            packsBy(x, 1, 0, unlike(n), head(96, 64), bytes(frame), END);
            due("BLOCKS of " + n, x.told(3), part.length);
            x = withSet(0, 16);
            packsBy(x, 3, 0, unlike(n), FIRST, bytes(chunks));
            due("CHUNKS of " + n, x.told(3), part.length);
        }
        Counted x = withSet(0, 3999);
        due("4,000 by 3,999", x.load(unlike(4000)).pack(1, 0), 7 + 4 + 3999 + 4 + 1 + 4);
        due("two BLOCKS", x.told(3), 2);
        due("the last one", x.block(1, 2), 1);
        x = new Counted();
        due("4,000 by 4,000", x.load(unlike(4000)).pack(1, 0), 7 + 4 + 4000 + 4);
        due("one BLOCK", x.told(3), 1);
        // The most BLOCKS that there can be.
        x = withSet(0, 16);
        due("4,000 by 16", x.load(unlike(4000)).pack(1, 0), 7 + 250 * 20 + 4);
        due("250 BLOCKS", x.told(3), 250);
        due("where the last one is", x.block(249, 0), 7 + 249 * 20 + 4);
        due("none behind it", x.block(250, 0), NONE);
    }

    // ---- 7 OPENING

    /** RULE 1 at the end of THE INPUT: everything of a FRAME may lack. */
    private static void whatLacksInFrames() {
        int[] block = bytes(0x16, 97, 1, 0, 0x50, times(5, 97));
        int[] came = bytes(times(16, 97), "abc");
        int[] whole = bytes(head(125, 64, number(19, 8), number(7, 4)), 10, 0, 0, 0, block, sumOf(block),
                3, 0, 0, 128, "abc", sumOf(bytes("abc")), END, sumOf(came));
        int[] before = bytes(80, 42, 77, 24, 1, 0, 0, 0, "x");
        opensBy(withSet(5, 7), 1, came, whole);
        for (int n = 1; n < whole.length; n++) {
            breaksBy(withSet(5, 7), 1, 1, n, Arrays.copyOf(whole, n));
            breaksBy(withSet(5, 7), 1, 1, 9 + n, before, Arrays.copyOf(whole, n));
        }
        for (int n = 1; n < before.length; n++) {
            breaks(1, 1, n, Arrays.copyOf(before, n));
        }
        opens(1, bytes(), before);
        opens(1, bytes());
    }

    /** RULE 1 at the end of THE INPUT, in a CHUNK's bytes at the CHUNK's. */
    private static void whatLacksInChunks() {
        int[] raw = bytes(1, 7, 0, 0, crcOf(bytes("abc")), "abc");
        int[] packed = bytes(0, 9, 0, 0, crcOf(times(5, 97)), 5, 0, 97, 1, 1);
        int[] whole = bytes(FIRST, raw, 200, 2, 0, 0, "xy", packed);
        opens(3, bytes("abc", times(5, 97)), whole);
        for (int n = 0; n < whole.length; n++) {
            boolean betweenChunks = n == 10 || n == 21 || n == 27;
            if (!betweenChunks) {
                breaks(3, 1, n, Arrays.copyOf(whole, n));
            }
        }
        opens(3, bytes(), FIRST);
        opens(3, bytes("abc"), FIRST, raw);
        // How many the form 2 of a CHUNK has is told by the CHUNK: what is behind it is not read.
        for (int n = 0; n < 5; n++) {
            int[] part = Arrays.copyOf(bytes(5, 0, 97, 1, 1), n);
            boolean fewer = n == 1 || n == 3;
            breaks(3, fewer ? 14 : 1, 18 + n, FIRST, 0, 4 + n, 0, 0, crcOf(times(5, 97)), part, packed);
        }
        // Likewise the BLOCK of a FRAME.
        int[] block = bytes(0x1F, 97, 1, 0, 0, 0x50, times(5, 97));
        for (int n = 1; n < block.length; n++) {
            boolean lastOne = n == 2;
            breaks(1, lastOne ? 3 : 1, lastOne ? 11 : 11 + n, head(96, 64), n, 0, 0, 0, Arrays.copyOf(block, n), END);
        }
    }

    /** "the TOKEN or bytes of L lack, LITERALS lack, 12, 3, OFFSET lacks, 2, bytes of M lack, 12". */
    private static void orderInSequences() {
        // 12,000 came: a literal more breaks 12 before 3, before an OFFSET lacks, before it is wrong.
        int[] full = bytes(0x1F, "a", 1, 0, times(46, 255), 250);
        breaks(0, 1, 51, full);
        breaks(0, 1, 52, full, 0x10);
        breaks(0, 1, 52, full, 0xF0);
        breaks(0, 12, 51, full, 0x10, "b");
        breaks(0, 12, 51, full, 0x11, "b");
        breaks(0, 12, 51, full, 0x10, "b", 1);
        breaks(0, 12, 51, full, 0x10, "b", 0, 0);
        breaks(0, 3, 51, full, 0);
        breaks(0, 1, 53, full, 0, 0);
        breaks(0, 2, 52, full, 0, 0, 0);
        breaks(0, 2, 52, full, 15, 0, 0);
        breaks(0, 1, 54, full, 15, 1, 0);
        breaks(0, 1, 55, full, 15, 1, 0, 255);
        breaks(0, 12, 51, full, 0, 1, 0);
        breaks(0, 12, 51, full, 15, 1, 0, 0);
        // An OFFSET of which one byte is there lacks, whatever it is.
        breaks(0, 1, 3, 0x10, "a", 0);
        breaks(0, 1, 3, 0x10, "a", 9);
        breaks(0, 1, 2, 0, 0);
        // 11,996 came: a copy of 4 bytes has room, and the next TOKEN lacks; one of 5 has none.
        int[] nearly = bytes(0x1F, "a", 1, 0, times(46, 255), 246);
        breaks(0, 1, 54, nearly, 0, 1, 0);
        breaks(0, 12, 51, nearly, 1, 1, 0);
        opens(0, bytes(times(11995, 97), "bcdef"), MOST);
    }

    /** "1, 4; FLAGS lack, 5; W's byte lacks, 5; SIZE, ID or the head's SUM lack, 6, 11; ..., 7, 1, 8, what is in it". */
    private static void orderInFrames() {
        // Both FLAGS and W are wrong; W is, and the head's SUM; the SUM is, and the ID.
        breaks(1, 5, 4, 4, 34, 77, 24, 98, 65, 0, END);
        breaks(1, 5, 5, 4, 34, 77, 24, 96, 65, 0, END);
        int[] told = head(105, 64, number(0, 8), number(7, 4));
        breaks(1, 11, 14, told, END);
        told[18] ^= 1;
        breaks(1, 6, 18, told, END);
        // The ID is asked before what lacks behind it.
        breaks(1, 11, 6, head(97, 64, number(7, 4)));
        // More than may be is asked before the bytes lack; the SUM of a RAW one before what would be too many.
        breaks(1, 7, 7, head(112, 64), number(65537, 4));
        int[] most = bytes(57, 0, 0, 0, MOST, sumOf(MOST));
        breaks(1, 8, 77, head(112, 64), most, 1, 0, 0, 128, "x", 1, 2, 3, 4, END);
        breaks(1, 12, 72, head(112, 64), most, 1, 0, 0, 128, "x", sumOf(bytes("x")), END);
        breaks(1, 1, 80, head(112, 64), most, 1, 0, 0, 128, "x", 1, 2, 3);
        opens(1, bytes(times(11995, 97), "bcdef"), head(112, 64), most, END);
        // THE END: the SIZE, then whether the SUM lacks, then the SUM.
        breaks(1, 9, 15, head(108, 64, number(1, 8)), END);
        breaks(1, 9, 15, head(108, 64, number(1, 8)), END, 1, 2, 3, 4);
        for (int n = 0; n < 4; n++) {
            breaks(1, 1, 19 + n, head(108, 64, number(0, 8)), END, times(n, 9));
        }
        breaks(1, 10, 19, head(108, 64, number(0, 8)), END, times(4, 9));
        // A FRAME that broke no RULE before one that does.
        breaks(1, 4, 11, head(96, 64), END, times(4, 9));
    }

    /** "how many lacks, 13, 12; an ELEMENT's numbers lack, 14, LITERALS lack, 2". */
    private static void orderInElements() {
        breaks(2, 13, 0, 255, 255, 255, 255, 16, 9);
        breaks(2, 1, 2, 0, 1);
        breaks(2, 1, 3, 0, 2, 0);
        breaks(2, 1, 5, 0, 3, 0, 0, 0);
        breaks(2, 1, 2, 0, 252);
        // Too many come, and the LITERALS lack; too many, and the OFFSET is wrong.
        breaks(2, 14, 1, 1, 4);
        breaks(2, 14, 1, 1, 4, "a");
        breaks(2, 14, 1, 3, 1, 9);
        breaks(2, 14, 1, 3, 1, 0);
        breaks(2, 2, 1, 4, 1, 9);
        breaks(2, 1, 2, 2, 4);
        breaks(2, 1, 3, 2, 4, "a");
        // Just as many, one more, one fewer.
        opens(2, bytes("ab"), 2, 4, "ab");
        breaks(2, 14, 4, 2, 4, "ab", 0, "c");
        breaks(2, 14, 4, 3, 4, "ab");
        breaks(2, 14, 4, 2, 4, "ab", 2, 1, 0);
    }

    /** "4 (the first KIND), how many lacks, 15, 4 (255 without 6), its bytes lack, 4; 12 or what is in form 2; 8". */
    private static void orderInChunks() {
        breaks(3, 4, 0, 3, 0);
        breaks(3, 1, 2, 255, 9);
        breaks(3, 1, 13, FIRST, 3, 0, 0);
        breaks(3, 15, 10, FIRST, 3, 255, 255, 255);
        breaks(3, 15, 10, FIRST, 0, 3, 0, 0);
        breaks(3, 4, 10, FIRST, 255, 200, 0, 0);
        breaks(3, 1, 9, 255, 6, 0, 0, "xNaPp");
        breaks(3, 4, 0, 255, 6, 0, 0, "xNaPpY");
        // 12,000 come of the first: then one more, with a CRC that is wrong too.
        int[] copies = new int[3 * 187];
        for (int i = 0; i < copies.length; i += 3) {
            copies[i] = 254;
            copies[i + 1] = 1;
        }
        int[] all = times(12000, 97);
        int[] form2 = bytes(224, 93, 0, 97, copies, 30 * 4 + 2, 1, 0);
        int[] most = bytes(FIRST, 0, number(4 + form2.length, 3), crcOf(all), form2);
        int n = most.length;
        opens(3, all, most);
        breaks(3, 12, n, most, 1, 5, 0, 0, 1, 2, 3, 4, "x");
        breaks(3, 1, n + 8, most, 1, 5, 0, 0, 1, 2, 3, 4);
        breaks(3, 8, n + 4, most, 1, 4, 0, 0, 1, 2, 3, 4);
        breaks(3, 12, n + 8, most, 0, 5, 0, 0, 1, 2, 3, 4, 1);
        breaks(3, 8, n + 4, most, 0, 5, 0, 0, 1, 2, 3, 4, 0);
        // What is in form 2 is asked before the CRC.
        breaks(3, 14, 19, FIRST, 0, 5, 0, 0, 1, 2, 3, 4, 1);
        breaks(3, 2, 19, FIRST, 0, 7, 0, 0, 1, 2, 3, 4, 4, 1, 1);
    }

    // ---- the promises

    /** Promises 2 to 6: the empty and the full INPUT, OUT and DICTIONARY. */
    private static void inputAndOut() {
        Counted x = new Counted().load(bytes("abc"));
        due("back() of nothing", x.back(), 0);
        due("the input is empty", x.told(0), 0);
        due("cut(0) of nothing", x.cut(0), 0);
        due("cut(-1) of nothing", x.cut(-1), BAD);
        x.load(MOST).open(0);
        due("byte 11,999", x.out(11999), 'f');
        due("byte 12,000", x.out(12000), BAD);
        due("12,000 do not go back", x.back(), FULL);
        // The bytes of a number, highest first, up to the last place of the input.
        x = new Counted().load(unlike(3980));
        due("the last twenty", x.feed(0x80FF7F01, -1, 0, Integer.MIN_VALUE, 0x01020304), 4000);
        due("and no more", x.feed(0, 0, 0, 0, 0), FULL);
        due("as much comes", x.pack(1, 0), 4015);
        int[] last = {128, 255, 127, 1, 255, 255, 255, 255, 0, 0, 0, 0, 128, 0, 0, 0, 1, 2, 3, 4};
        for (int i = 0; i < 20; i++) {
            due("byte " + i + " of the last twenty", x.out(11 + 3980 + i), last[i]);
        }
        for (int n = 3961; n <= 3979; n += 6) {
            x = new Counted().load(bytes(0x1F, "a", 1, 0, times(15, 255), n - 3850, 0x50, "bcdef"));
            due("as many", x.open(0), n);
            x.back();
            due("room for twenty behind " + n, x.feed(1, 2, 3, 4, 5), n + 20);
            due("but once", x.feed(1, 2, 3, 4, 5), FULL);
        }
        // 999, 1,000 and 1,001 bytes; a dictionary of none takes the one that was.
        x = new Counted().load(times(999, 1));
        due("999", x.dictionary(), 999);
        due("1,000", x.load(times(1000, 1)).dictionary(), 1000);
        due("1,001", x.load(times(1001, 1)).dictionary(), FULL);
        due("4,000", new Counted().load(times(4000, 1)).dictionary(), FULL);
        x.cut(0);
        due("none", x.dictionary(), 0);
        due("nothing stands before", x.load(bytes(1, 2)).longest(0), 0);
    }

    /** Promises 9 and 10: "behind what THE OUT has", up to its last byte and one more; it is what comes that counts. */
    private static void roomBehindTheOut() {
        for (int tooMany = 0; tooMany <= 1; tooMany++) {
            long want = tooMany == 0 ? 12000 : FULL;
            due("a frame", holding(11900).load(unlike(85 + tooMany)).more(1, 0), want);
            due("chunks", holding(11900).load(unlike(82 + tooMany)).more(3, 0), want);
            due("a piece", holding(11900).load(unlike(92 + tooMany)).skip(1, 95), want);
            due("a chunk", holding(11900).load(unlike(96 + tooMany)).skip(3, 254), want);
            due("4,000 that take 41", holding(11959 + tooMany).load(times(4000, 97)).more(1, 0), want);
            due("an empty frame", holding(11989 + tooMany).more(1, 2), want);
            due("no chunks", holding(11990 + tooMany).more(3, 2), want);
            due("an empty piece", holding(11992 + tooMany).skip(1, 80), want);
            due("an empty chunk", holding(11996 + tooMany).skip(3, 128), want);
        }
        Counted x = holding(11900).load(unlike(82));
        x.more(3, 0);
        x.holds("behind", bytes(times(11895, 97), "bcdef", FIRST, 1, 86, 0, 0, crcOf(unlike(82)), unlike(82)));
        due("where it is", x.block(0, 0), 11918);
    }

    /** An object whose out has so many bytes, 11,755 to 12,000. */
    private static Counted holding(int n) {
        Counted x = new Counted().load(bytes(0x1F, "a", 1, 0, times(46, 255), n - 11755, 0x50, "bcdef"));
        due("the out has", x.open(0), n);
        return x;
    }

    /** Promise 13: "Of the latest pack(), more() or open() that broke no RULE". */
    private static void blocksThatAreTold() {
        Counted x = new Counted();
        facts("of nothing, form 0", x.load(bytes()), 0, new int[] {0, 1, 0, 0, 0, 0, 1});
        facts("of nothing, form 2", x.load(bytes()), 2, new int[] {0, 1, 0, 0, 0, 0, 0});
        x.load(bytes()).pack(1, 0);
        due("of nothing, form 1", x.block(0, 0), NONE);
        x.load(bytes()).pack(3, 0);
        due("of nothing, form 3", x.block(0, 0), NONE);
        // RAW, as it is not shorter when it is packed.
        facts("a byte, form 1", x.load(bytes("a")), 1, new int[] {11, 1, 1, 1, 0, 1, 0});
        facts("a byte, form 3", x.load(bytes("a")), 3, new int[] {18, 1, 1, 1, 0, 1, 0});
        // Three COPIES of 6 bytes, with 7, 2 and no LITERALS before them, and some behind.
        int[] some = bytes("abcdef1abcdef23abcdefabcdefg");
        facts("copies, form 2", x.load(some), 2, new int[] {0, 20, 28, 0, 3, 10, 6});
        facts("copies, form 3", x.load(some), 3, new int[] {18, 20, 28, 0, 3, 10, 6});
        some = bytes(some, "hijklmno");
        facts("copies, form 0", x.load(some), 0, new int[] {0, 28, 36, 0, 3, 18, 4});
        facts("copies, form 1", x.load(some), 1, new int[] {11, 28, 36, 0, 3, 18, 4});
        facts("9 bytes, form 3", x.load(bytes("abcdabcda")), 3, new int[] {18, 8, 9, 0, 1, 4, 2});
        // A refused or broken call between leaves the latest one.
        due("no form", x.pack(4, 0), BAD);
        due("a rule", x.load(bytes(0x10)).open(0), -11);
        due("no level", x.more(1, 3), BAD);
        due("a piece", x.load(bytes("x")).skip(1, 80), 18);
        due("still of form 3", x.block(0, 1), 8);
        due("one", x.told(3), 1);
        // A RAW one of no bytes that is opened, and a packed one.
        x.load(bytes(head(96, 64), 0, 0, 0, 128, 1, 0, 0, 0, 0, END)).open(1);
        int[][] want = {{11, 0, 0, 1, 0, 0, 0}, {15, 1, 0, 0, 0, 0, 1}};
        for (int i = 0; i < 2; i++) {
            for (int what = 0; what <= 6; what++) {
                due("block(" + i + ", " + what + ")", x.block(i, what), want[i][what]);
            }
        }
        due("two", x.told(3), 2);
        due("no third", x.block(2, 0), NONE);
        for (int i : new int[] {-1, Integer.MIN_VALUE, Integer.MAX_VALUE}) {
            due("no such", x.block(i, 0), NONE);
            due("what -1", x.block(i, -1), BAD);
            due("what 7", x.block(i, 7), BAD);
            due("what far", x.block(0, Integer.MAX_VALUE), BAD);
        }
    }

    private static void facts(String what, Counted x, int form, int[] want) {
        x.pack(form, 0);
        for (int i = 0; i <= 6; i++) {
            due(what + ": block(0, " + i + ")", x.block(0, i), want[i]);
        }
        x.back();
        x.open(form);
        for (int i = 0; i <= 6; i++) {
            due(what + " opened: block(0, " + i + ")", x.block(0, i), want[i]);
        }
    }

    /** Promises 14 and 15: the first and the last place, the nearest and the farthest. */
    private static void longestAndNear() {
        due("near() before any longest()", new Counted().load(bytes("abcabc")).near(3, 3), 3);
        Counted x = new Counted().load(bytes("ab"));
        due("nothing before the first place", x.longest(0), 0);
        due("nor near", x.near(0, 1), NONE);
        due("nor of all", x.near(0, 2), NONE);
        due("one too many", x.near(0, 3), BAD);
        due("the last place", x.near(1, 1), NONE);
        due("one too many at the last place", x.near(1, 2), BAD);
        due("behind it", x.near(2, 1), BAD);
        due("behind it", x.near(2, 0), BAD);
        for (int odd : new int[] {Integer.MIN_VALUE, -1, 2, Integer.MAX_VALUE}) {
            due("longest(" + odd + ")", x.longest(odd), BAD);
            due("near(" + odd + ", 1)", x.near(odd, 1), BAD);
            due("near(0, " + odd + ")", x.near(0, odd), odd == 2 ? NONE : BAD);
            due("near(" + odd + ", " + odd + ")", x.near(odd, odd), BAD);
        }
        // The farthest: the dictionary's first byte and the input's last.
        x = leaningOn("q", times(999, 255)).load(bytes(times(3999, 254), "q"));
        due("the farthest", x.near(3999, 1), 4999);
        due("the longest of one", x.longest(3999), 1);
        due("all but one", x.longest(1), 3998);
        due("the nearest", x.near(1, 3998), 1);
        due("one too far", x.near(1, 3999), NONE);
        // All of the input stands in the dictionary; it reaches from the dictionary on into the input.
        x = leaningOn("abcab").load(bytes("abcab"));
        due("as far as it goes", x.longest(0), 5);
        due("as far as it goes", x.near(0, 5), 5);
        due("on into the input", x.near(0, 2), 2);
        x = leaningOn("ab").load(bytes("abababab"));
        due("on into the input", x.longest(0), 8);
        due("on into the input", x.near(0, 8), 2);
    }
}
