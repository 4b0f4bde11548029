import java.util.Arrays;
import java.util.Random;
import java.util.zip.DataFormatException;

/** Promises 9, 12 (of packing) and 13: pack, told and length. */
public final class PackTest extends PackDue {
    private static final int[] CHAINS = {0, 1, 2, 8, 128};

    public static void main(String[] args) throws DataFormatException {
        edges();
        matches();
        blocks();
        kindsOfSameBits();
        longCodes();
        manyRows();
        refusals();
        Due.end();
    }

    private static void all(String name, byte[] input) throws DataFormatException {
        for (int chain : CHAINS) {
            whole(name, input, chain, false);
            whole(name, input, chain, true);
        }
    }

    private static void edges() throws DataFormatException {
        all("nothing", new byte[0]);
        int[] sizes = {1, 2, 3, 4, 5, 257, 258, 259, 260, 261, 262, 516, 517, 518, 4095, 4096, 4097, 8191, 8192};
        for (int n : sizes) {
            all("zeros", new byte[n]);
            all("even bytes", even(n, n));
        }
        byte[] every = new byte[256];
        for (int i = 0; i < 256; i++) {
            every[i] = (byte) i;
        }
        all("every byte", every);
    }

    private static void matches() throws DataFormatException {
        // At the second a a lazy packer sees a longer match one place on, and at the one behind that again.
        all("lazy", text("abc_bcde_cdefg_abcdefg"));
        // Of two of the same length the nearest one is best; of a farther one, a longer.
        all("nearest", text("abcdX abcdY abcdZ abcd!"));
        all("longest is farther", text("abcdefgh1abcdef2abcd3abcdefgh"));
        all("overlapping", text("ababababababab"));
        all("at the end two are left", text("abcab"));
        for (int length = 3; length <= 260; length++) {
            byte[] bytes = Arrays.copyOf(even(300, 5), 300 + length + 1);
            System.arraycopy(bytes, 20, bytes, 300, length);
            bytes[300 + length] = (byte) ~bytes[20 + length];
            whole("a length of " + length, bytes, 4, length % 2 == 0);
        }
        for (int distance = 1; distance <= 4000; distance += distance < 40 ? 1 : 97) {
            byte[] bytes = even(8192, distance);
            for (int i = 4136; i < 4186; i++) {
                bytes[i] = bytes[i - distance];
            }
            whole("a distance of " + distance, bytes, 4, false);
        }
        byte[] far = even(8192, 77);
        System.arraycopy(far, 0, far, 8100, 92);
        all("from the first byte to the last", far);
    }

    private static void blocks() throws DataFormatException {
        byte[] letters = new byte[8192];
        Random random = new Random(3);
        for (int i = 0; i < letters.length; i++) {
            letters[i] = (byte) (97 + random.nextInt(5));
        }
        byte[] even = even(8192, 4);
        byte[] firstLetters = even.clone();
        System.arraycopy(letters, 0, firstLetters, 0, 4096);
        all("a made block, a stored one", firstLetters);
        byte[] firstEven = letters.clone();
        System.arraycopy(even, 0, firstEven, 0, 4096);
        all("a stored block, a made one", firstEven);
        byte[] firstFixed = Arrays.copyOf(letters, 4096 + 12);
        all("a made block, a fixed one", firstFixed);
        byte[] run = even.clone();
        Arrays.fill(run, 4000, 4300, (byte) 9);
        all("a run over the border of blocks", run);
        byte[] copied = even.clone();
        System.arraycopy(even, 4000, copied, 6000, 300);
        all("a match with a place of the block before", copied);
        for (int n = 1; n < 60; n++) {
            all("small ones where kinds take as many bits", even(n, 1000 + n));
            all("small ones of few letters", Arrays.copyOf(letters, n));
        }
    }

    /** Rows for which two kinds take the same bits, and less than the third one: found by trying. */
    private static void kindsOfSameBits() throws DataFormatException {
        for (long seed : new long[] {523, 2139, 2355, 2809}) {
            byte[] bytes = drawn(seed);
            whole("stored as well as made, " + seed, bytes, 0, false);
            BlockPacker x = Rows.packerOf(bytes);
            x.pack(0, false);
            Due.same("stored as well as made, " + seed + ": told(1)", x.told(1), 1);
        }
        for (long seed : new long[] {33, 304, 537, 1124}) {
            byte[] bytes = drawn(seed);
            whole("fixed as well as made, " + seed, bytes, 0, false);
            BlockPacker x = Rows.packerOf(bytes);
            x.pack(0, false);
            Due.same("fixed as well as made, " + seed + ": told(2)", x.told(2), 1);
        }
    }

    private static void longCodes() throws DataFormatException {
        // With the one of 256 the counts are 1 1 2 3 5 .. 987: the rarest have codes of as many bits as can be.
        byte[] bytes = new byte[4096];
        int at = 0;
        int one = 1;
        int two = 2;
        for (int s = 0; s < 15; s++) {
            Arrays.fill(bytes, at, at + one, (byte) (s * 3));
            at += one;
            int sum = one + two;
            one = two;
            two = sum;
        }
        bytes = Arrays.copyOf(bytes, at);
        whole("counts of Fibonacci", bytes, 0, false);
        BlockPacker rare = Rows.packerOf(bytes);
        rare.pack(0, false);
        Due.same("the rarest one's length", rare.length(0, 0), 15);
        Due.same("the length of 256", rare.length(0, 256), 15);
        byte[] doubled = new byte[8192];
        for (int i = 0; i < 8192; i++) {
            int place = i % 4096;
            doubled[i] = (byte) (Integer.numberOfTrailingZeros(place | 4096) * 5);
        }
        whole("counts of powers of 2", doubled, 0, false);
        BlockPacker x = Rows.packerOf(doubled);
        x.pack(0, false);
        Due.same("the most frequent one's length", x.length(0, 0), 1);
    }

    private static void manyRows() throws DataFormatException {
        Random random = new Random(11);
        for (int i = 0; i < 400; i++) {
            int size = i % 4 == 0 ? random.nextInt(8193) : random.nextInt(600);
            byte[] bytes = Rows.made(random, size);
            whole("row " + i, bytes, random.nextInt(129), random.nextBoolean());
            whole("row " + i, bytes, CHAINS[i % CHAINS.length], random.nextBoolean());
        }
    }

    private static void refusals() {
        BlockPacker x = new BlockPacker();
        x.fill(2, 1, 500);
        int n = x.pack(128, true);
        byte[] output = Rows.content(x, 1);
        int matches = x.told(4);
        int end = x.length(0, 256);
        x.cut(10);
        for (int chain : new int[] {Integer.MIN_VALUE, -1, 129, Integer.MAX_VALUE}) {
            Due.same("pack(" + chain + ", true)", x.pack(chain, true), BlockPacker.BAD);
            Due.same("pack(" + chain + ", false)", x.pack(chain, false), BlockPacker.BAD);
        }
        Due.same("output behind refusals", Rows.content(x, 1), output);
        Due.same("size behind refusals", x.size(1), n);
        Due.same("told(4) behind refusals", x.told(4), matches);
        Due.same("length behind refusals", x.length(0, 256), end);
        x.unpack();
        Due.same("told(4) behind unpack", x.told(4), matches);
        Due.same("length behind unpack", x.length(0, 256), end);
        for (int k : new int[] {Integer.MIN_VALUE, -1, 8, Integer.MAX_VALUE}) {
            Due.same("told(" + k + ")", x.told(k), BlockPacker.BAD);
        }
        for (int bad : new int[] {Integer.MIN_VALUE, -1, 286, Integer.MAX_VALUE}) {
            Due.same("length(0, " + bad + ")", x.length(0, bad), BlockPacker.BAD);
            Due.same("length(1, " + bad + ")", x.length(1, bad), BlockPacker.BAD);
            Due.same("length(" + bad + ", 0)", x.length(bad, 0), BlockPacker.BAD);
        }
        Due.same("length(2, 0)", x.length(2, 0), BlockPacker.BAD);
        Due.same("length(1, 30)", x.length(1, 30), BlockPacker.BAD);
        Due.holds("length(0, 285) is one", x.length(0, 285) >= 0);
        Due.holds("length(1, 29) is one", x.length(1, 29) >= 0);
    }
}
