import java.util.Arrays;

/** Promises 1 to 8: each sentence that names an edge has a test of its own. */
public final class EdgesOfRowsTest {
    private static final int LEAST = Integer.MIN_VALUE, MOST = Integer.MAX_VALUE;
    private static final int NONE = BlockPacker.NONE, BAD = BlockPacker.BAD, FULL = BlockPacker.FULL;

    public static void main(String[] args) {
        newIsEmpty();
        inputHasRoomFor8192();
        outputHasRoomForAllThatIsPacked();
        upTo512Calls();
        feedLowestFirst();
        feedAnswersItsSize();
        feedBad();
        feedFull();
        fillSteady();
        fillBitsOfX();
        fillBitsBeside();
        fillWrapsAround();
        fillFourLetters();
        fillAlsoWhatIsPut();
        fillBadKind();
        fillBadCount();
        fillBadPlace();
        fillPlaceOnlyFor3();
        fillFull();
        setLowestEightBits();
        setWhatItWas();
        setNone();
        cutKeeps();
        cutBad();
        takeAll();
        takeWhatHasRoom();
        takeNothing();
        sizeOfBoth();
        sizeBad();
        atOfBoth();
        atNone();
        Due.end();
    }

    private static void hasBytes(BlockPacker x, int from, int... want) {
        for (int i = 0; i < want.length; i++) {
            Due.same("at(0, " + (from + i) + ")", x.at(0, from + i), want[i]);
        }
    }

    /** An input of so many bytes, each of them its place's lowest eight bits. */
    private static BlockPacker counting(int n) {
        byte[] bytes = new byte[n];
        for (int i = 0; i < n; i++) {
            bytes[i] = (byte) i;
        }
        return Rows.packerOf(bytes);
    }

    private static void newIsEmpty() {
        Due.sentence("1 a new object", "Both empty.");
        BlockPacker x = new BlockPacker();
        Due.same("size(0)", x.size(0), 0);
        Due.same("size(1)", x.size(1), 0);
        Due.same("at(0, 0)", x.at(0, 0), NONE);
        Due.same("at(1, 0)", x.at(1, 0), NONE);
        Due.same("take()", x.take(), 0);
        // What another object has is not its own.
        BlockPacker other = counting(9);
        other.pack(0, false);
        Due.same("size(0) beside another object", x.size(0), 0);
        Due.same("size(1) beside another object", x.size(1), 0);
        Due.same("size(0) of an object that is newer", new BlockPacker().size(0), 0);
    }

    private static void inputHasRoomFor8192() {
        Due.sentence("Terms (2, 3)", "THE INPUT is a row of at most 8192 bytes");
        BlockPacker x = new BlockPacker();
        Due.same("fill(0, 7, 8191)", x.fill(0, 7, 8191), 8191);
        Due.same("feed(9, 1)", x.feed(9, 1), 8192);
        Due.same("at(0, 8191)", x.at(0, 8191), 9);
        Due.same("feed(9, 1) of the 8193rd", x.feed(9, 1), FULL);
        Due.same("fill(0, 9, 1) of the 8193rd", x.fill(0, 9, 1), FULL);
        Due.same("size(0)", x.size(0), 8192);
        Due.same("at(0, 8192)", x.at(0, 8192), NONE);
    }

    private static void outputHasRoomForAllThatIsPacked() {
        Due.sentence("Terms (9)", "THE OUTPUT one of at most 9000");
        // Nothing makes more bytes than two stored blocks: 2 + 2 * (1 + 4 + 4096) + 4.
        BlockPacker x = new BlockPacker();
        x.fill(1, 5, 8192);
        Due.same("pack(0, false)", x.pack(0, false), 8208);
        Due.same("size(1)", x.size(1), 8208);
        Due.same("at(1, 8203), the last byte packed", x.at(1, 8203), x.at(0, 8191));
        Due.holds("at(1, 8207) is a byte", x.at(1, 8207) >= 0);
        Due.same("at(1, 8208)", x.at(1, 8208), NONE);
    }

    private static void upTo512Calls() {
        Due.sentence("What it is", "An object is used for at most 512 calls after it has been made");
        BlockPacker x = new BlockPacker();
        x.fill(2, 3, 8192);
        int first = x.pack(128, true);
        for (int call = 3; call <= 511; call++) {
            Due.same("call " + call + ", pack(128, true)", x.pack(128, true), first);
        }
        Due.same("call 512, take()", x.take(), first);
    }

    private static void feedLowestFirst() {
        Due.sentence("2 feed", "Puts the n lowest of eight bytes behind the input, the lowest one first");
        BlockPacker x = new BlockPacker();
        x.feed(0x8877665544332211L, 1);
        hasBytes(x, 0, 0x11);
        x.feed(0x8877665544332211L, 8);
        hasBytes(x, 1, 0x11, 0x22, 0x33, 0x44, 0x55, 0x66, 0x77, 0x88);
        x.feed(-2L, 2);
        hasBytes(x, 9, 0xFE, 0xFF);
        x.feed(Long.MIN_VALUE, 8);
        hasBytes(x, 11, 0, 0, 0, 0, 0, 0, 0, 0x80);
        // All sizes leave what stands before alone.
        for (int n = 1; n <= 8; n++) {
            int size = x.size(0);
            x.feed(0x0807060504030201L, n);
            Due.same("the byte before " + n, x.at(0, size - 1), n == 1 ? 0x80 : n - 1);
            Due.same("the last one of " + n, x.at(0, size + n - 1), n);
            Due.same("behind " + n, x.at(0, size + n), NONE);
        }
    }

    private static void feedAnswersItsSize() {
        Due.sentence("2 feed", "how many it has then");
        BlockPacker x = new BlockPacker();
        int size = 0;
        for (int n = 1; n <= 8; n++) {
            size += n;
            Due.same("feed(0, " + n + ")", x.feed(0, n), size);
        }
        Due.same("size(0)", x.size(0), 36);
    }

    private static void feedBad() {
        Due.sentence("2 feed", "BAD when n is not 1 .. 8");
        BlockPacker x = new BlockPacker();
        for (int n : new int[] {LEAST, -8, -1, 0, 9, 16, MOST}) {
            Due.same("feed(5, " + n + ")", x.feed(5, n), BAD);
            Due.same("size(0) behind it", x.size(0), 0);
        }
        Due.same("feed(5, 1)", x.feed(5, 1), 1);
        Due.same("feed(5, 8)", x.feed(5, 8), 9);
        x.fill(0, 0, 8183);
        Due.same("feed(5, 0) of a full input", x.feed(5, 0), BAD);
        Due.same("feed(5, 9) of a full input", x.feed(5, 9), BAD);
    }

    private static void feedFull() {
        Due.sentence("2 feed", "FULL, refused, when there is no room.");
        for (int n = 1; n <= 8; n++) {
            BlockPacker x = new BlockPacker();
            x.fill(0, 3, 8192 - n + 1);
            Due.same("feed(9, " + n + ") with room for one less", x.feed(9, n), FULL);
            Due.same("size(0) behind it", x.size(0), 8192 - n + 1);
            Due.same("the last byte behind it", x.at(0, 8192 - n), 3);
            x.cut(8192 - n);
            Due.same("feed(9, " + n + ") with just as much room", x.feed(9, n), 8192);
        }
    }

    private static void fillSteady() {
        Due.sentence("3 fill", "kind 0 the lowest eight bits of seed, always");
        int[] seeds = {0, 1, 255, 256, 511, -1, -256, LEAST, MOST};
        int[] want = {0, 1, 255, 0, 255, 255, 0, 0, 255};
        for (int i = 0; i < seeds.length; i++) {
            BlockPacker x = new BlockPacker();
            Due.same("fill(0, " + seeds[i] + ", 4)", x.fill(0, seeds[i], 4), 4);
            hasBytes(x, 0, want[i], want[i], want[i], want[i]);
        }
    }

    private static void fillBitsOfX() {
        Due.sentence("3 fill", "1 the bits 16 .. 23 of x, which is at first seed and becomes 1103515245 x + 12345"
            + " (an int) before each");
        // x is 12345 at first for the seed 0: the bits 16 .. 23 are 0; then -740551042 and so on.
        BlockPacker x = new BlockPacker();
        Due.same("fill(1, 0, 3)", x.fill(1, 0, 3), 3);
        int one = 12345;
        int two = 1103515245 * one + 12345;
        int three = 1103515245 * two + 12345;
        hasBytes(x, 0, 0, two >> 16 & 255, three >> 16 & 255);
        // Each call begins with its own seed.
        Due.same("fill(1, 0, 1) again", x.fill(1, 0, 1), 4);
        hasBytes(x, 3, 0);
        // 1103515245 + 12345 is 0x41C69E6D + 0x3039.
        Due.same("fill(1, 1, 1)", x.fill(1, 1, 1), 5);
        hasBytes(x, 4, 0xC6);
    }

    /** The seed whose first x is this one: what 1103515245 and 12345 do is undone. */
    private static int seedFor(int x) {
        int inverse = 1103515245;
        for (int i = 0; i < 5; i++) {
            inverse *= 2 - 1103515245 * inverse;
        }
        return (x - 12345) * inverse;
    }

    private static void fillBitsBeside() {
        Due.sentence("3 fill", "1 the bits 16 .. 23 of x [..] 2 the same, but 97 more than the bits 16 and 17");
        int[] values = {0, 0xFFFF, 0x10000, 0x1FFFF, 0x20000, 0x3FFFF, 0x40000, 0x7FFFFF, 0x800000, 0xFFFFFF, 0x1000000,
            0xFF00FFFF, 0xFF030000, 0x7FFFFFFF, 0x80000000, 0x8000FFFF, 0xFFFFFFFF};
        int[] want = {0, 0, 1, 1, 2, 3, 4, 127, 128, 255, 0, 0, 3, 255, 0, 0, 255};
        for (int i = 0; i < values.length; i++) {
            int seed = seedFor(values[i]);
            Due.same("x of the seed " + seed, 1103515245 * seed + 12345, values[i]);
            BlockPacker x = new BlockPacker();
            Due.same("fill(1, " + seed + ", 1)", x.fill(1, seed, 1), 1);
            Due.same("fill(2, " + seed + ", 1)", x.fill(2, seed, 1), 2);
            hasBytes(x, 0, want[i], 97 + want[i] % 4);
        }
    }

    private static void fillWrapsAround() {
        Due.sentence("3 fill", "(an int)");
        for (int seed : new int[] {LEAST, LEAST + 1, -1, MOST - 1, MOST}) {
            BlockPacker x = new BlockPacker();
            Due.same("fill(1, " + seed + ", 200)", x.fill(1, seed, 200), 200);
            java.math.BigInteger value = java.math.BigInteger.valueOf(seed);
            for (int i = 0; i < 200; i++) {
                value = value.multiply(java.math.BigInteger.valueOf(1103515245)).add(java.math.BigInteger.valueOf(12345));
                hasBytes(x, i, value.shiftRight(16).intValue() & 255);
            }
        }
    }

    private static void fillFourLetters() {
        Due.sentence("3 fill", "2 the same, but 97 more than the bits 16 and 17");
        for (int seed : new int[] {0, 7, -7, LEAST, MOST}) {
            BlockPacker x = new BlockPacker();
            x.fill(1, seed, 4000);
            Due.same("fill(2, " + seed + ", 4000)", x.fill(2, seed, 4000), 8000);
            boolean[] seen = new boolean[4];
            for (int i = 0; i < 4000; i++) {
                hasBytes(x, 4000 + i, 97 + (x.at(0, i) & 3));
                seen[x.at(0, i) & 3] = true;
            }
            Due.holds("all four come", seen[0] && seen[1] && seen[2] && seen[3]);
        }
    }

    private static void fillAlsoWhatIsPut() {
        Due.sentence("3 fill", "3 those of the input from place seed on, also those that are put by this");
        BlockPacker x = counting(5);
        Due.same("fill(3, 3, 7)", x.fill(3, 3, 7), 12);
        hasBytes(x, 0, 0, 1, 2, 3, 4, 3, 4, 3, 4, 3, 4, 3);
        Due.same("fill(3, 11, 2) of the last place", x.fill(3, 11, 2), 14);
        hasBytes(x, 12, 3, 3);
        Due.same("fill(3, 0, 5) of none that are put by it", x.fill(3, 0, 5), 19);
        hasBytes(x, 14, 0, 1, 2, 3, 4);
        BlockPacker one = counting(1);
        one.set(0, 77);
        Due.same("fill(3, 0, 8191) of one byte", one.fill(3, 0, 8191), 8192);
        hasBytes(one, 8190, 77, 77);
    }

    private static void fillBadKind() {
        Due.sentence("3 fill", "BAD when kind is none of these");
        BlockPacker x = counting(10);
        for (int kind : new int[] {LEAST, -1, 4, 5, 256, MOST}) {
            Due.same("fill(" + kind + ", 0, 1)", x.fill(kind, 0, 1), BAD);
            Due.same("size(0) behind it", x.size(0), 10);
        }
        for (int kind = 0; kind <= 3; kind++) {
            Due.same("fill(" + kind + ", 0, 1)", x.fill(kind, 0, 1), 11 + kind);
        }
    }

    private static void fillBadCount() {
        Due.sentence("3 fill", "n not 1 .. 8192");
        for (int kind = 0; kind <= 3; kind++) {
            BlockPacker x = counting(1);
            for (int n : new int[] {LEAST, -1, 0, 8193, 9000, MOST}) {
                Due.same("fill(" + kind + ", 0, " + n + ")", x.fill(kind, 0, n), BAD);
                Due.same("size(0) behind it", x.size(0), 1);
            }
            Due.same("fill(" + kind + ", 0, 1)", x.fill(kind, 0, 1), 2);
        }
        for (int kind = 0; kind <= 2; kind++) {
            Due.same("fill(" + kind + ", 0, 8192)", new BlockPacker().fill(kind, 0, 8192), 8192);
        }
    }

    private static void fillBadPlace() {
        Due.sentence("3 fill", "for 3, seed no place of it");
        BlockPacker x = new BlockPacker();
        Due.same("fill(3, 0, 1) of an empty input", x.fill(3, 0, 1), BAD);
        x = counting(10);
        for (int seed : new int[] {LEAST, -1, 10, 11, 8192, MOST}) {
            Due.same("fill(3, " + seed + ", 1)", x.fill(3, seed, 1), BAD);
            Due.same("size(0) behind it", x.size(0), 10);
        }
        Due.same("fill(3, 9, 1)", x.fill(3, 9, 1), 11);
        Due.same("fill(3, 10, 1)", x.fill(3, 10, 1), 12);
        // What was cut off is no place any more.
        x.cut(10);
        Due.same("fill(3, 10, 1) behind a cut", x.fill(3, 10, 1), BAD);
    }

    private static void fillPlaceOnlyFor3() {
        Due.sentence("3 fill", "or, for 3, seed no place of it");
        for (int kind = 0; kind <= 2; kind++) {
            BlockPacker x = new BlockPacker();
            Due.same("fill(" + kind + ", -1, 1) of an empty input", x.fill(kind, -1, 1), 1);
            Due.same("fill(" + kind + ", 9999, 1)", x.fill(kind, 9999, 1), 2);
        }
    }

    private static void fillFull() {
        Due.sentence("3 fill", "FULL, refused, when there is no room.");
        for (int kind = 0; kind <= 3; kind++) {
            BlockPacker x = counting(100);
            Due.same("fill(" + kind + ", 7, 8192)", x.fill(kind, 7, 8192), FULL);
            Due.same("fill(" + kind + ", 7, 8093)", x.fill(kind, 7, 8093), FULL);
            Due.same("size(0) behind it", x.size(0), 100);
            Due.same("at(0, 100) behind it", x.at(0, 100), NONE);
            Due.same("fill(" + kind + ", 7, 8092)", x.fill(kind, 7, 8092), 8192);
            Due.same("fill(" + kind + ", 7, 1)", x.fill(kind, 7, 1), FULL);
            Due.same("size(0) behind that", x.size(0), 8192);
        }
    }

    private static void setLowestEightBits() {
        Due.sentence("4 set", "A byte of the input becomes b (its lowest eight bits)");
        int[] given = {0, 255, 256, -1, -256, 0x1234, LEAST, MOST};
        int[] want = {0, 255, 0, 255, 0, 0x34, 0, 255};
        BlockPacker x = counting(3);
        for (int i = 0; i < given.length; i++) {
            x.set(1, given[i]);
            hasBytes(x, 0, 0, want[i], 2);
        }
        Due.same("size(0)", x.size(0), 3);
    }

    private static void setWhatItWas() {
        Due.sentence("4 set", "what it was");
        BlockPacker x = counting(8192);
        Due.same("set(0, 200)", x.set(0, 200), 0);
        Due.same("set(0, 1)", x.set(0, 1), 200);
        Due.same("set(8191, 5)", x.set(8191, 5), 255);
        Due.same("set(8191, 6)", x.set(8191, 6), 5);
    }

    private static void setNone() {
        Due.sentence("4 set", "NONE when there is none");
        BlockPacker x = new BlockPacker();
        Due.same("set(0, 1) of an empty input", x.set(0, 1), NONE);
        x = counting(10);
        for (int i : new int[] {LEAST, -1, 10, 11, 8191, 8192, 9000, MOST}) {
            Due.same("set(" + i + ", 1)", x.set(i, 1), NONE);
            Due.same("size(0) behind it", x.size(0), 10);
        }
        Due.same("set(9, 1)", x.set(9, 1), 9);
        x.cut(9);
        Due.same("set(9, 7) of a byte that went", x.set(9, 7), NONE);
        Due.same("set(8192, 1) of a full input", counting(8192).set(8192, 1), NONE);
    }

    private static void cutKeeps() {
        Due.sentence("5 cut", "The input keeps its first n bytes: how many went.");
        BlockPacker x = new BlockPacker();
        Due.same("cut(0) of an empty input", x.cut(0), 0);
        x = counting(10);
        Due.same("cut(10)", x.cut(10), 0);
        Due.same("cut(9)", x.cut(9), 1);
        hasBytes(x, 0, 0, 1, 2, 3, 4, 5, 6, 7, 8, NONE);
        Due.same("cut(1)", x.cut(1), 8);
        hasBytes(x, 0, 0, NONE);
        Due.same("feed(99, 1)", x.feed(99, 1), 2);
        hasBytes(x, 0, 0, 99, NONE);
        Due.same("cut(0)", x.cut(0), 2);
        Due.same("size(0)", x.size(0), 0);
        Due.same("cut(0) of a full input", counting(8192).cut(0), 8192);
    }

    private static void cutBad() {
        Due.sentence("5 cut", "BAD when n is not 0 .. its size.");
        BlockPacker x = new BlockPacker();
        Due.same("cut(1) of an empty input", x.cut(1), BAD);
        Due.same("cut(-1) of an empty input", x.cut(-1), BAD);
        x = counting(10);
        for (int n : new int[] {LEAST, -1, 11, 8192, MOST}) {
            Due.same("cut(" + n + ")", x.cut(n), BAD);
            Due.same("size(0) behind it", x.size(0), 10);
        }
        Due.same("cut(8193) of a full input", counting(8192).cut(8193), BAD);
    }

    private static void takeAll() {
        Due.sentence("6 take", "The input becomes the output's first bytes");
        BlockPacker x = counting(20);
        int n = x.pack(0, false);
        byte[] packed = Rows.content(x, 1);
        Due.same("take() of more than the input has", x.take(), n);
        Due.same("the input", Rows.content(x, 0), packed);
        Due.same("the output", Rows.content(x, 1), packed);
        x.fill(0, 1, 500);
        Due.same("take() of less than the input has", x.take(), n);
        Due.same("the input then", Rows.content(x, 0), packed);
        // Both are rows of their own.
        x.set(0, 1);
        Due.same("at(1, 0) behind set(0, 1)", x.at(1, 0), 120);
    }

    private static void takeWhatHasRoom() {
        Due.sentence("6 take", "as many as have room in it: how many it has.");
        BlockPacker x = new BlockPacker();
        x.fill(1, 5, 8192);
        Due.same("pack(0, false)", x.pack(0, false), 8208);
        byte[] first = Arrays.copyOf(Rows.content(x, 1), 8192);
        Due.same("take()", x.take(), 8192);
        Due.same("the input", Rows.content(x, 0), first);
        Due.same("size(1)", x.size(1), 8208);
        // 2 + 5 + 4096 + 5 + 4080 + 4 are just 8192.
        x.cut(0);
        x.fill(1, 5, 8176);
        Due.same("pack(0, false) of 8176", x.pack(0, false), 8192);
        Due.same("take() of just as many", x.take(), 8192);
        Due.same("unpack()", x.unpack(), 8176);
        x.cut(0);
        x.fill(1, 5, 8177);
        Due.same("pack(0, false) of 8177", x.pack(0, false), 8193);
        Due.same("take() of one more", x.take(), 8192);
    }

    private static void takeNothing() {
        Due.sentence("6 take", "The input becomes the output's first bytes, as many as have room in it");
        BlockPacker x = counting(10);
        Due.same("take() of an empty output", x.take(), 0);
        Due.same("size(0)", x.size(0), 0);
        Due.same("at(0, 0)", x.at(0, 0), NONE);
    }

    private static void sizeOfBoth() {
        Due.sentence("7 size", "How many bytes the input (0) or the output (1) has.");
        BlockPacker x = new BlockPacker();
        Due.same("size(0) of an empty input", x.size(0), 0);
        Due.same("size(1) of an empty output", x.size(1), 0);
        x.fill(1, 5, 8192);
        x.pack(0, false);
        Due.same("size(0) of a full input", x.size(0), 8192);
        Due.same("size(1)", x.size(1), 8208);
        x.cut(5);
        Due.same("size(0) behind a cut", x.size(0), 5);
        Due.same("size(1) behind a cut", x.size(1), 8208);
    }

    private static void sizeBad() {
        Due.sentence("7 size", "BAD when which is neither.");
        BlockPacker x = counting(10);
        x.pack(0, false);
        for (int which : new int[] {LEAST, -1, 2, 3, 256, MOST}) {
            Due.same("size(" + which + ")", x.size(which), BAD);
        }
    }

    private static void atOfBoth() {
        Due.sentence("8 at", "A byte of the input (0) or output (1)");
        BlockPacker x = new BlockPacker();
        x.fill(1, 5, 8191);
        x.feed(255, 1);
        x.set(0, 128);
        x.pack(0, false);
        Due.same("at(0, 0)", x.at(0, 0), 128);
        Due.same("at(0, 8191)", x.at(0, 8191), 255);
        Due.same("at(1, 0)", x.at(1, 0), 120);
        Due.same("at(1, 1)", x.at(1, 1), 156);
        // Behind a byte with the block's bits, its two numbers and all the bytes of both blocks.
        Due.same("at(1, 7), the first byte packed", x.at(1, 7), 128);
        Due.same("at(1, 8203), the last byte packed", x.at(1, 8203), 255);
    }

    private static void atNone() {
        Due.sentence("8 at", "NONE when there is none.");
        BlockPacker x = counting(10);
        x.pack(0, false);
        int packed = x.size(1);
        for (int i : new int[] {LEAST, -1, 8192, 9000, 9001, MOST}) {
            Due.same("at(0, " + i + ")", x.at(0, i), NONE);
            Due.same("at(1, " + i + ")", x.at(1, i), NONE);
        }
        Due.same("at(0, 10)", x.at(0, 10), NONE);
        Due.same("at(1, its size)", x.at(1, packed), NONE);
        Due.same("at(0, 9)", x.at(0, 9), 9);
        x.cut(9);
        Due.same("at(0, 9) behind a cut", x.at(0, 9), NONE);
        // There is no row but those two.
        for (int which : new int[] {LEAST, -1, 2, MOST}) {
            Due.same("at(" + which + ", 0)", x.at(which, 0), NONE);
        }
    }
}
