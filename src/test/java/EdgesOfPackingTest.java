import java.util.ArrayList;
import java.util.Arrays;
import java.util.Collections;
import java.util.List;
import java.util.Random;
import java.util.zip.DataFormatException;

/** Promises 9, 12 (of packing) and 13 and their terms: each sentence that names an edge has a test of its own. */
public final class EdgesOfPackingTest extends PackDue {
    private static final int LEAST = Integer.MIN_VALUE, MOST = Integer.MAX_VALUE, BAD = BlockPacker.BAD;

    public static void main(String[] args) throws DataFormatException {
        headBytes();
        lastBlockAlone();
        bitsUpToAByte();
        checkAtTheEnd();
        checkModulo();
        blocksOf4096();
        blockOfNoBytes();
        threeBytesInTheBlock();
        placeBefore();
        lengthAtMost258();
        lengthWithinTheBlock();
        candidatesAtMostChain();
        candidatesNone();
        candidatesMost();
        bestIsGreatest();
        bestIsNearest();
        noMatchNoSymbol();
        lazyLonger();
        lazyNotLonger();
        lazyInTheBlock();
        goesOnBehind();
        length258();
        oneEnd();
        lengthsOfNone();
        lengthsOfOne();
        lengthsOfTwo();
        sameByNumber();
        symbolBeforePairs();
        pairsInTheirOrder();
        limit15();
        limit15Binds();
        limit15BindsOthers();
        limit7();
        smallestH();
        smallestD();
        smallestC();
        stretchesOfZeros();
        stretchesOfOthers();
        longTale();
        stretchOverTheBorder();
        storedAsFixed();
        storedAsFixedWithAMatch();
        storedAsMade();
        storedWithTheBitsBefore();
        fixedAsMade();
        allOfTheInput();
        chainBad();
        chainRefused();
        toldAtFirst();
        toldOfStored();
        toldOfTheLatest();
        toldBad();
        lengthAtFirst();
        lengthOfTheLastBlock();
        lengthAsIfMade();
        lengthBad();
        Due.end();
    }

    private static byte[] many(int n, int value) {
        byte[] bytes = new byte[n];
        Arrays.fill(bytes, (byte) value);
        return bytes;
    }

    private static byte[] letters(int n, int kinds, long seed) {
        Random random = new Random(seed);
        byte[] bytes = new byte[n];
        for (int i = 0; i < n; i++) {
            bytes[i] = (byte) (97 + random.nextInt(kinds));
        }
        return bytes;
    }

    /** So many bytes of 9 bits in a fixed block, no two the same or side by side. */
    private static byte[] high(int n) {
        byte[] bytes = new byte[n];
        for (int i = 0; i < n; i++) {
            bytes[i] = (byte) (144 + 3 * i);
        }
        return bytes;
    }

    private static byte[] joined(byte[] one, byte[] two) {
        byte[] both = Arrays.copyOf(one, one.length + two.length);
        System.arraycopy(two, 0, both, one.length, two.length);
        return both;
    }

    private static BlockPacker packed(byte[] input, int chain, boolean lazy) {
        BlockPacker x = Rows.packerOf(input);
        x.pack(chain, lazy);
        return x;
    }

    private static void tells(String name, BlockPacker x, int blocks, int matches, int bytes) {
        Due.same(name + ": told(0)", x.told(0), blocks);
        Due.same(name + ": told(4)", x.told(4), matches);
        Due.same(name + ": told(5)", x.told(5), bytes);
    }

    private static void kinds(String name, BlockPacker x, int stored, int fixed, int made) {
        Due.same(name + ": told(0)", x.told(0), stored + fixed + made);
        Due.same(name + ": told(1)", x.told(1), stored);
        Due.same(name + ": told(2)", x.told(2), fixed);
        Due.same(name + ": told(3)", x.told(3), made);
    }

    private static void found(String text, int chain, boolean lazy, String want) {
        Due.same("\"" + text + "\" packed by " + chain + (lazy ? ", lazy" : ""), found(text(text), chain, lazy), want);
    }

    private static void headBytes() {
        Due.sentence("Terms (9)", "A PACKED ROW: the bytes 120 and 156");
        for (int n : new int[] {0, 1, 4096, 8192}) {
            BlockPacker x = packed(even(n, n), 4, true);
            Due.same(n + " bytes: at(1, 0)", x.at(1, 0), 120);
            Due.same(n + " bytes: at(1, 1)", x.at(1, 1), 156);
        }
    }

    private static void lastBlockAlone() {
        Due.sentence("Terms (9)", "BLOCKS, of which just the last one has a first bit 1 (all others 0)");
        Due.same("no bytes", only(parts(new byte[0], 0, false), "block"), "1 kind 1");
        Due.same("4096 even bytes", only(parts(even(4096, 1), 0, false), "block"), "1 kind 0");
        Due.same("4097 even bytes", only(parts(even(4097, 1), 0, false), "block"), "0 kind 0 1 kind 1");
        Due.same("4096 letters", only(parts(letters(4096, 4, 1), 0, false), "block"), "1 kind 2");
        Due.same("4097 letters", only(parts(letters(4097, 4, 1), 0, false), "block"), "0 kind 2 1 kind 1");
        Due.same("8192 letters", only(parts(letters(8192, 4, 1), 0, false), "block"), "0 kind 2 1 kind 2");
        Due.same("8192 even bytes", only(parts(even(8192, 1), 0, false), "block"), "0 kind 0 1 kind 0");
    }

    private static void bitsUpToAByte() {
        Due.sentence("Terms (9)", "The bits up to the end of a byte are 0.");
        // A fixed block of n bytes of 9 bits ends behind 26 + 9 n bits.
        String[] want = {"000000", "00000", "0000", "000", "00", "0", "", "0000000"};
        for (int n = 0; n < 8; n++) {
            Due.same(n + " bytes of 9 bits", only(parts(high(n), 0, false), "up to a byte"), want[n]);
        }
        // Before a stored block, and behind it there are none left; the output had other bits before.
        Due.same("a stored block", only(parts(even(4000, 1), 0, false), "up to a byte"), "00000 ");
        BlockPacker x = packed(many(3000, 255), 0, false);
        Rows.give(x, even(100, 1));
        x.pack(0, false);
        Due.same("a stored block where others stood", x.at(1, 2), 1);
        boolean[] seen = new boolean[8];
        for (int seed = 0; seed < 60; seed++) {
            byte[] input = joined(letters(4096, 5, seed), even(100, seed));
            String bits = only(parts(input, 0, false), "up to a byte").replace(" ", "");
            Due.same("zeros before a stored block", bits, "0".repeat(bits.length()));
            seen[bits.length()] = true;
        }
        for (int left = 0; left < 8; left++) {
            Due.holds(left + " bits before a stored block came", seen[left]);
        }
    }

    private static void ends(String name, byte[] input, int high, int low) {
        BlockPacker x = packed(input, 8, true);
        int end = x.size(1);
        Due.same(name + ": the first byte of four", x.at(1, end - 4), high >> 8);
        Due.same(name + ": the second byte of four", x.at(1, end - 3), high & 255);
        Due.same(name + ": the third byte of four", x.at(1, end - 2), low >> 8);
        Due.same(name + ": the last byte of four", x.at(1, end - 1), low & 255);
    }

    private static void checkAtTheEnd() {
        Due.sentence("Terms (9)", "the CHECK in four bytes, the highest first: 65536 b + a, a being 1 and all bytes that"
            + " are packed, b the sum of all values that a has behind each of them");
        ends("no bytes", new byte[0], 0, 1);
        ends("a byte 0", new byte[1], 1, 1);
        ends("a byte 255", many(1, 255), 256, 256);
        ends("two bytes 255", many(2, 255), 256 + 511, 511);
        ends("8192 zeros", new byte[8192], 8192, 1);
    }

    private static void checkModulo() {
        Due.sentence("Terms (9)", "both modulo 65521");
        int sum = 256 + 255 * 256 * 257 / 2;
        for (int last = 239; last <= 241; last++) {
            byte[] input = many(257, 255);
            input[256] = (byte) last;
            int low = last == 239 ? 65520 : last - 240;
            ends("256 times 255, then " + last, input, (sum + low) % 65521, low);
        }
        byte[] below = new byte[4095];
        below[0] = 15;
        ends("b is 4095 * 16", below, 65520, 16);
        byte[] just = below.clone();
        just[4094] = 1;
        ends("b is 4094 * 16 + 17", just, 0, 17);
        byte[] above = new byte[362];
        above[0] = (byte) 180;
        ends("b is 362 * 181", above, 1, 181);
        // The greatest sums that there are: b is the sum of 1 + 255 i for i from 1 to 8192.
        long b = 8192 + 255L * 8192 * 8193 / 2;
        ends("8192 times 255", many(8192, 255), (int) (b % 65521), (1 + 255 * 8192) % 65521);
    }

    private static void blocksOf4096() {
        Due.sentence("Terms (9)", "PACKING takes BLOCKS of 4096 bytes of the input, the last one what is left");
        int[] sizes = {1, 4095, 4096, 4097, 8191, 8192};
        int[] blocks = {1, 1, 1, 2, 2, 2};
        for (int i = 0; i < sizes.length; i++) {
            tells(sizes[i] + " bytes", packed(Rows.unlike(sizes[i], 3), 8, false), blocks[i], 0, sizes[i]);
        }
        Due.same("4096", only(parts(even(4096, 2), 0, false), "stored"), "4096");
        Due.same("4496", only(parts(even(4496, 2), 0, false), "stored"), "4096 400");
        Due.same("8191", only(parts(even(8191, 2), 0, false), "stored"), "4096 4095");
        Due.same("8192", only(parts(even(8192, 2), 0, false), "stored"), "4096 4096");
    }

    private static void blockOfNoBytes() {
        Due.sentence("Terms (9)", "(one of no bytes, when the input has none)");
        BlockPacker x = new BlockPacker();
        Due.same("pack(0, false)", x.pack(0, false), 8);
        int[] want = {0x78, 0x9C, 0x03, 0x00, 0x00, 0x00, 0x00, 0x01};
        for (int i = 0; i < 8; i++) {
            Due.same("at(1, " + i + ")", x.at(1, i), want[i]);
        }
        kinds("no bytes", x, 0, 1, 0);
        tells("no bytes", x, 1, 0, 0);
        // Just once: 4096 bytes have no empty block behind them.
        Due.same("told(0) of 4096 bytes", packed(new byte[4096], 0, false).told(0), 1);
        Due.same("told(0) of 8192 bytes", packed(new byte[8192], 0, false).told(0), 2);
    }

    private static void threeBytesInTheBlock() {
        Due.sentence("Terms (9)", "A MATCH at a place p, from which on there are three bytes in its block");
        found("aaa", 128, false, "|aaa");
        found("aaaa", 128, false, "|a<3,1>");
        found("abcab", 128, false, "|abcab");
        found("abcabc", 128, false, "|abc<3,3>");
        found("abcabc", 128, true, "|abc<3,3>");
        // Three bytes at the end of the first block, and ones of which just two stand in it.
        for (int at = 4092; at <= 4096; at++) {
            byte[] input = Rows.unlike(8192, 7);
            System.arraycopy(input, 100, input, at, 3);
            boolean match = at <= 4093 || at == 4096;
            tells("three bytes at " + at, packed(input, 8, false), 2, match ? 1 : 0, match ? 8189 : 8192);
            tells("three bytes at " + at + ", lazy", packed(input, 8, true), 2, match ? 1 : 0, match ? 8189 : 8192);
        }
        byte[] input = Rows.unlike(8192, 7);
        System.arraycopy(input, 100, input, 8189, 3);
        tells("the last three bytes of all", packed(input, 8, false), 2, 1, 8189);
        input = Rows.unlike(8192, 7);
        System.arraycopy(input, 100, input, 8190, 2);
        tells("the last two bytes of all", packed(input, 8, false), 2, 0, 8192);
    }

    private static void placeBefore() {
        Due.sentence("Terms (9)", "is with a place q before it, at most 32768 away, when three bytes from q on are those");
        // From the very first place to the last one that has three bytes.
        byte[] input = Rows.unlike(8192, 9);
        System.arraycopy(input, 0, input, 8189, 3);
        BlockPacker x = packed(input, 1, false);
        tells("8189 away", x, 2, 1, 8189);
        for (int d = 0; d < 30; d++) {
            Due.same("8189 away: length(1, " + d + ")", x.length(1, d), d == 25 ? 1 : 0);
        }
        // Two bytes alone are none; q may be the place just before.
        found("abxaby", 128, false, "|abxaby");
        found("abcxbcay", 128, false, "|abcxbcay");
        found("aaaab", 1, false, "|a<3,1>b");
        // q's block need not be p's, and what is the same may go over a border of q's.
        input = Rows.unlike(8192, 10);
        System.arraycopy(input, 4090, input, 6000, 20);
        x = packed(input, 1, false);
        tells("over a border", x, 2, 1, 8172);
        // A length of 20 is 269 and one more; 1910 away is the distance 21.
        Due.same("over a border: length(1, 21)", x.length(1, 21), 1);
        Due.holds("over a border: length(0, 269)", x.length(0, 269) > 0);
        // No place behind p is one.
        input = Rows.unlike(4096, 11);
        System.arraycopy(input, 3000, input, 1000, 3);
        tells("places behind", packed(input, 128, false), 1, 1, 4093);
    }

    private static void lengthAtMost258() {
        Due.sentence("Terms (9)", "its LENGTH is how many bytes from both on are the same, at most 258");
        String z = "z";
        found(z.repeat(258), 8, false, "|z<257,1>");
        found(z.repeat(259), 8, false, "|z<258,1>");
        found(z.repeat(260), 8, false, "|z<258,1>z");
        found(z.repeat(261), 8, false, "|z<258,1>zz");
        found(z.repeat(262), 8, false, "|z<258,1><3,1>");
        found(z.repeat(517), 8, false, "|z<258,1><258,1>");
        found(z.repeat(518), 8, true, "|z<258,1><258,1>z");
        // Not of a run alone: 300 bytes that stood before.
        byte[] input = Rows.unlike(1000, 12);
        System.arraycopy(input, 100, input, 600, 300);
        tells("300 bytes", packed(input, 1, false), 1, 2, 700);
    }

    private static void lengthWithinTheBlock() {
        Due.sentence("Terms (9)", "and not beyond p's block");
        // 1 + 15 * 258 + 225 are 4096.
        String first = "|z" + "<258,1>".repeat(15) + "<225,1>";
        found("z".repeat(4096), 1, false, first);
        found("z".repeat(4097), 1, false, first + "|z");
        found("z".repeat(4098), 1, false, first + "|zz");
        found("z".repeat(4099), 1, false, first + "|<3,1>");
        found("z".repeat(4196), 1, true, first + "|<100,1>");
        for (int over = 0; over <= 20; over++) {
            // 20 bytes the same, of which so many stand behind the border.
            byte[] input = Rows.unlike(8192, 13);
            System.arraycopy(input, 100, input, 4076 + over, 20);
            int in = over > 17 ? 0 : 20 - over;
            int behind = over < 3 ? 0 : over;
            int matches = (in > 0 ? 1 : 0) + (behind > 0 ? 1 : 0);
            tells(over + " behind the border", packed(input, 4, false), 2, matches, 8192 - in - behind);
            tells(over + " behind the border, lazy", packed(input, 4, true), 2, matches, 8192 - in - behind);
        }
    }

    /** A long match far off, and so many short ones nearer, each with a byte of its own behind it. */
    private static byte[] behindShorts(int shorts) {
        byte[] input = text("abcdefgh");
        for (int i = 0; i < shorts; i++) {
            input = joined(input, new byte[] {(byte) (120 + i), 97, 98, 99});
        }
        return joined(input, joined(new byte[] {0}, text("abcdefgh")));
    }

    private static void candidatesAtMostChain() {
        Due.sentence("Terms (9)", "Its CANDIDATES are the latest (most near) of such places, at most CHAIN of them");
        for (int shorts : new int[] {1, 2, 3, 15, 16, 64, 126, 127}) {
            byte[] input = behindShorts(shorts);
            // With as many candidates as there are shorts the long match is not seen: abc, and then defgh.
            tells(shorts + " of " + (shorts + 1), packed(input, shorts, false), 1, shorts + 2, 8 + shorts + 1);
            tells(shorts + 1 + " of " + (shorts + 1), packed(input, shorts + 1, false), 1, shorts + 1, 8 + shorts + 1);
            Due.same("8 of them by 262, " + shorts, packed(input, shorts, false).length(0, 262), 0);
            Due.holds("8 of them by 262, " + (shorts + 1), packed(input, shorts + 1, false).length(0, 262) > 0);
        }
    }

    private static void candidatesNone() {
        Due.sentence("Terms (9)", "at most CHAIN of them");
        found("z".repeat(30), 0, false, "|" + "z".repeat(30));
        found("z".repeat(30), 0, true, "|" + "z".repeat(30));
        tells("8192 zeros", packed(new byte[8192], 0, true), 2, 0, 8192);
        found("z".repeat(30), 1, true, "|z<29,1>");
    }

    private static void candidatesMost() {
        Due.sentence("Terms (9)", "at most CHAIN of them");
        byte[] input = behindShorts(128);
        tells("128 of 129", packed(input, 128, false), 1, 130, 8 + 129);
        Due.same("length(0, 262)", packed(input, 128, false).length(0, 262), 0);
    }

    private static void bestIsGreatest() {
        Due.sentence("Terms (9)", "the BEST one is that of greatest length");
        found("abcdefX1abcdY2abcdefZ", 2, false, "|abcdefX1<4,8>Y2<6,14>Z");
        found("abcdefX1abcdY2abcdefZ", 1, false, "|abcdefX1<4,8>Y2<4,6>efZ");
        // By one byte more, and up to the most that there can be.
        found("abcdX1abcY2abcdZ", 128, false, "|abcdX1<3,6>Y2<4,11>Z");
        byte[] input = Rows.unlike(1300, 14);
        System.arraycopy(input, 0, input, 450, 258);
        System.arraycopy(input, 0, input, 750, 257);
        System.arraycopy(input, 0, input, 1030, 258);
        Due.same("258 of a farther place", only(parts(input, 128, false), "match"),
            "258 450 by 285 17 257 300 by 284 16 258 580 by 285 18");
    }

    private static void bestIsNearest() {
        Due.sentence("Terms (9)", "of several the nearest one");
        found("abcdX1abcdY2abcdZ3abcdW", 128, false, "|abcdX1<4,6>Y2<4,6>Z3<4,6>W");
        // A shorter one between them does not count.
        found("abcdX1abcdY2abcZ3abcdW", 128, false, "|abcdX1<4,6>Y2<3,6>Z3<4,11>W");
        found("z".repeat(20) + "." + "z".repeat(10), 128, false, "|z<19,1>.<10,11>");
    }

    private static void noMatchNoSymbol() {
        Due.sentence("Terms (9)", "if there is no best match at p, its byte is a symbol");
        found("a", 128, true, "|a");
        found("ab", 128, true, "|ab");
        found("abcdefghij", 128, true, "|abcdefghij");
        tells("8192 without a match", packed(Rows.unlike(8192, 15), 128, true), 2, 0, 8192);
    }

    private static void lazyLonger() {
        Due.sentence("Terms (9)", "likewise, if packing is LAZY and the best match at p + 1 (in the block) is longer than"
            + " that at p");
        found("abc1bcde2abcde", 128, true, "|abc1bcde2a<4,6>");
        found("abc1bcde2abcde", 128, false, "|abc1bcde2<3,9>de");
        // Once more at the next place: a 3, b 4, c 5.
        found("abc1bcde2cdefg3abcdefg4", 128, true, "|abc1bcde2<3,4>fg3ab<5,8>4");
        found("abc1bcde2cdefg3abcdefg4", 128, false, "|abc1bcde2<3,4>fg3<3,15><4,8>4");
    }

    private static void lazyNotLonger() {
        Due.sentence("Terms (9)", "is longer than that at p; otherwise the best match's length");
        found("abc1bcd2abcd", 128, true, "|abc1bcd2<3,8>d");
        found("abc1bcd2abcd", 128, false, "|abc1bcd2<3,8>d");
        // In a run the match one place on is as long, or shorter.
        found("z".repeat(600), 128, true, "|z<258,1><258,1><83,1>");
        // A longer one two places on is not looked at.
        found("abc1cdefg2abcdefg3", 128, true, "|abc1cdefg2<3,10><4,8>3");
    }

    private static void lazyInTheBlock() {
        Due.sentence("Terms (9)", "the best match at p + 1 (in the block)");
        // 11 bytes that are the same, the first three of them at the end of the block.
        byte[] input = Rows.unlike(8192, 16);
        System.arraycopy(input, 100, input, 4093, 11);
        tells("three in the block", packed(input, 4, true), 2, 2, 8192 - 11);
        // A match of three at the end; from p + 1 on four would be the same, two of them in the block.
        input = Rows.unlike(8192, 17);
        System.arraycopy(input, 100, input, 4093, 3);
        System.arraycopy(input, 101, input, 200, 2);
        input[4096] = input[202];
        input[4097] = input[203];
        tells("four over the border", packed(input, 8, true), 2, 1, 8189);
        // The same, when p + 1 has three in the block: they are as long, not longer.
        input = Rows.unlike(8192, 18);
        System.arraycopy(input, 100, input, 4092, 3);
        System.arraycopy(input, 101, input, 200, 2);
        input[4095] = input[202];
        input[4096] = input[203];
        input[4097] = input[204];
        tells("three in the block at p + 1", packed(input, 8, true), 2, 1, 8189);
    }

    private static void goesOnBehind() {
        Due.sentence("Terms (9)", "the best match's length [..] and distance, and p goes on behind it");
        found("abcabcabcX", 8, false, "|abc<6,3>X");
        // Places within a match are candidates for what follows.
        found("abcdabcdXbcdaY", 8, false, "|abcd<4,4>X<4,8>Y");
        byte[] input = Rows.made(new Random(77), 8192);
        for (boolean lazy : new boolean[] {false, true}) {
            List<String> parts = parts(input, 16, lazy);
            int made = 0;
            for (String part : parts) {
                made += part.startsWith("byte ") ? 1 : part.startsWith("match ") ? Integer.parseInt(part.split(" ")[1]) : 0;
            }
            Due.same("all bytes are told once", made, 8192);
        }
    }

    private static void length258() {
        Due.sentence("Terms (9)", "(258 as 285, not as 284 with 31 more)");
        Due.same("259 zeros", only(parts(new byte[259], 1, false), "match"), "258 1 by 285 0");
        Due.same("258 zeros", only(parts(new byte[258], 1, false), "match"), "257 1 by 284 0");
        BlockPacker x = packed(new byte[259], 1, false);
        Due.holds("length(0, 285)", x.length(0, 285) > 0);
        Due.same("length(0, 284)", x.length(0, 284), 0);
        x = packed(new byte[258], 1, false);
        Due.same("length(0, 285) of 257", x.length(0, 285), 0);
        Due.holds("length(0, 284) of 257", x.length(0, 284) > 0);
    }

    private static void lengthsAre(String name, BlockPacker x, int... pairs) {
        int[] want = new int[286];
        for (int i = 0; i < pairs.length; i += 2) {
            want[pairs[i]] = pairs[i + 1];
        }
        for (int s = 0; s < 286; s++) {
            Due.same(name + ": length(0, " + s + ")", x.length(0, s), want[s]);
        }
    }

    private static void oneEnd() {
        Due.sentence("Terms (9, 13)", "A block's COUNTS are how often symbols, with one 256 at its end, and distances"
            + " come.");
        // Two of a, three of b, one 256; two 256s would make all lengths others.
        lengthsAre("aabbb", packed(text("aabbb"), 0, false), 97, 2, 98, 1, 256, 2);
        // Each block has counts of its own: of 4097 zeros the last one has one, and one 256.
        lengthsAre("4097 zeros", packed(new byte[4097], 0, false), 0, 1, 256, 1);
    }

    private static void lengthsOfNone() {
        Due.sentence("Terms (9, 13)", "none for a count 0");
        BlockPacker x = packed(text("abc"), 128, false);
        lengthsAre("abc", x, 97, 2, 98, 2, 99, 2, 256, 2);
        for (int d = 0; d < 30; d++) {
            Due.same("no distances: length(1, " + d + ")", x.length(1, d), 0);
        }
    }

    private static void lengthsOfOne() {
        Due.sentence("Terms (9, 13)", "1, when there is just one that is not");
        lengthsAre("no bytes", packed(new byte[0], 0, false), 256, 1);
        BlockPacker x = packed(text("abcabcabcabc"), 8, false);
        Due.same("one distance: length(1, 2)", x.length(1, 2), 1);
        for (int d = 0; d < 30; d++) {
            Due.same("one distance: length(1, " + d + ")", x.length(1, d), d == 2 ? 1 : 0);
        }
    }

    private static void lengthsOfTwo() {
        Due.sentence("Terms (9, 13)", "Of the last list the first 2 m - 2 items are taken");
        lengthsAre("a", packed(text("a"), 0, false), 97, 1, 256, 1);
        lengthsAre("4096 a", packed(many(4096, 97), 0, false), 97, 1, 256, 1);
        BlockPacker x = packed(text("zzzzz.ababababab"), 8, false);
        Due.same("two distances: length(1, 0)", x.length(1, 0), 1);
        Due.same("two distances: length(1, 1)", x.length(1, 1), 1);
    }

    private static void sameByNumber() {
        Due.sentence("Terms (9, 13)", "the first one has the symbols with counts, by rising counts, the same by number");
        // Of three of the same count the first two have 2 bits.
        lengthsAre("ab", packed(text("ab"), 0, false), 97, 2, 98, 2, 256, 1);
        lengthsAre("ba", packed(text("ba"), 0, false), 97, 2, 98, 2, 256, 1);
        // Four of 2 and one of 1: 256 and the least of them.
        lengthsAre("ddccbbaa", packed(text("ddccbbaa"), 0, false), 256, 3, 97, 3, 98, 2, 99, 2, 100, 2);
    }

    private static void symbolBeforePairs() {
        Due.sentence("Terms (9, 13)", "by rising counts, of the same a symbol before pairs");
        // With the pair of c and 256 before a and b there would be lengths of 1, 2, 3 and 3.
        lengthsAre("aabbc", packed(text("aabbc"), 0, false), 97, 2, 98, 2, 99, 2, 256, 2);
    }

    private static void pairsInTheirOrder() {
        Due.sentence("Terms (9, 13)", "pairs in their order");
        // Of the pairs a b and c d, which count the same, the first one is taken once more with 256.
        lengthsAre("abcd", packed(text("abcd"), 0, false), 97, 3, 98, 3, 99, 2, 100, 2, 256, 2);
        lengthsAre("dcba", packed(text("dcba"), 0, false), 97, 3, 98, 3, 99, 2, 100, 2, 256, 2);
    }

    /** Fifteen bytes, which come 1, 2, 3, 5 .. 987 times. */
    private static byte[] fibonacci() {
        byte[] bytes = new byte[0];
        int one = 1;
        int two = 2;
        for (int s = 0; s < 15; s++) {
            bytes = joined(bytes, many(one, s));
            int next = one + two;
            one = two;
            two = next;
        }
        return bytes;
    }

    private static void limit15() throws DataFormatException {
        Due.sentence("Terms (9, 13)", "with a limit (15, and 7 for the 19)");
        // With the one of 256: 1 1 2 3 5 .. 987, which make lengths up to 15 without a limit too.
        byte[] input = fibonacci();
        Due.same("bytes", input.length, 2582);
        BlockPacker x = packed(input, 0, false);
        lengthsAre("counts of Fibonacci", x, 256, 15, 0, 15, 1, 14, 2, 13, 3, 12, 4, 11, 5, 10, 6, 9, 7, 8, 8, 7, 9, 6,
            10, 5, 11, 4, 12, 3, 13, 2, 14, 1);
        whole("counts of Fibonacci", input, 0, false);
    }

    /**
     * How often bytes from 0 on come: each as often as all before the one before it and the 256, and more times more.
     * With one more each time, just the two rarest items can be paired, whatever was paired before.
     */
    private static int[] deepCounts(int[] more) {
        int[] counts = new int[16];
        counts[0] = 1;
        counts[1] = 1;
        int before = 2;
        for (int s = 2; s < 16; s++) {
            counts[s] = before + more[s];
            before += counts[s - 1];
        }
        return counts;
    }

    private static int[] ones() {
        int[] ones = new int[16];
        Arrays.fill(ones, 1);
        return ones;
    }

    private static byte[] bytesOf(int[] counts) {
        byte[] bytes = new byte[0];
        for (int s = 0; s < counts.length; s++) {
            bytes = joined(bytes, many(counts[s], s));
        }
        return bytes;
    }

    private static void limit15Binds() throws DataFormatException {
        Due.sentence("Terms (9, 13)", "with a limit (15, and 7 for the 19): [..] each next one, limit lists in all");
        byte[] input = bytesOf(deepCounts(ones()));
        Due.same("bytes", input.length, 3569);
        BlockPacker x = packed(input, 0, false);
        Due.same("a made block", x.told(3), 1);
        // Without a limit they would be 16 16 15 14 .. 1.
        lengthsAre("counts that want 16", x, 0, 15, 1, 15, 256, 14, 2, 13, 3, 12, 4, 11, 5, 10, 6, 9, 7, 8, 8, 7, 9, 6,
            10, 5, 11, 4, 12, 3, 13, 2, 14, 2, 15, 2);
        whole("counts that want 16", input, 0, false);
        // The first byte is the rarest in one block, and the most frequent in the other.
        byte[] two = joined(joined(input, many(4096 - input.length, 15)), turned(input));
        whole("two blocks that want 16", two, 0, false);
    }

    private static void limit15BindsOthers() throws DataFormatException {
        Due.sentence("Terms (9, 13)", "Of the last list the first 2 m - 2 items are taken");
        int bound = 0;
        for (long seed = 0; seed < 40; seed++) {
            Random random = new Random(seed);
            int[] more = ones();
            more[2 + random.nextInt(14)] += random.nextInt(3) - 1;
            more[10 + random.nextInt(6)] += random.nextInt(9) - 4;
            int[] counts = deepCounts(more);
            byte[] input = bytesOf(counts);
            int[] all = Arrays.copyOf(counts, 286);
            all[256] = 1;
            if (Arrays.stream(Reference.lengths(all, 20)).max().orElse(0) > 15) {
                bound++;
            }
            whole("near counts that want 16, " + seed, input, 0, seed % 2 == 0);
        }
        Due.holds("rows came that the limit binds", bound >= 3);
    }

    private static byte[] turned(byte[] bytes) {
        byte[] turned = new byte[bytes.length];
        for (int i = 0; i < bytes.length; i++) {
            turned[i] = (byte) (15 - bytes[i]);
        }
        return turned;
    }

    private static void limit7() throws DataFormatException {
        Due.sentence("Terms (9)", "with a limit (15, and 7 for the 19)");
        int bound = 0;
        for (long seed = 30; seed < 80; seed++) {
            Random random = new Random(seed);
            byte[] input = new byte[400 + random.nextInt(3697)];
            int kinds = 30 + random.nextInt(220);
            double skew = 0.3 + 3 * random.nextDouble();
            for (int i = 0; i < input.length; i++) {
                input[i] = (byte) (int) (kinds * StrictMath.pow(random.nextDouble(), skew));
            }
            List<String> parts = parts(input, 0, false);
            int[] counts = new int[19];
            for (String part : parts) {
                if (part.startsWith("told ")) {
                    counts[Integer.parseInt(part.split("[ +]")[1])]++;
                }
            }
            int longest = Arrays.stream(Reference.lengths(counts, 15)).max().orElse(0);
            if (longest > 7) {
                bound++;
                Due.same("lengths of the 19, " + seed, only(parts, "nineteen"),
                    Arrays.toString(Reference.lengths(counts, 7)));
                whole("without a limit " + longest + " bits", input, 0, false);
            }
        }
        Due.holds("rows came that the limit binds", bound >= 3);
    }

    private static void smallestH() {
        Due.sentence("Terms (9)", "A MADE block has h and d as small as the lengths that are not 0 allow");
        Due.same("no matches", only(parts(many(200, 255), 0, false), "h").split(" ")[0], "0");
        Due.same("lengths of 258", only(parts(joined(letters(2000, 5, 1), new byte[1000]), 0, false), "h").split(" ")[0],
            "0");
        List<String> parts = parts(joined(letters(2000, 5, 1), new byte[1000]), 8, false);
        Due.same("285 is the last one", only(parts, "h").split(" ")[0], "29");
        for (long seed = 0; seed < 30; seed++) {
            byte[] input = letters(500 + 100 * (int) seed, 4, seed);
            BlockPacker x = packed(input, 16, true);
            Due.same("a made block, " + seed, x.told(3), 1);
            int last = 285;
            while (last > 256 && x.length(0, last) == 0) {
                last--;
            }
            Due.same("h, " + seed, only(parts(input, 16, true), "h").split(" ")[0], "" + (last - 256));
        }
    }

    private static void smallestD() {
        Due.sentence("Terms (9)", "A MADE block has h and d as small as the lengths that are not 0 allow");
        Due.same("no matches", only(parts(letters(500, 4, 1), 0, false), "h").split(" ")[2], "0");
        // The distance 1 alone is d = 0 as well.
        byte[] runs = new byte[900];
        for (int i = 0; i < 900; i++) {
            runs[i] = (byte) (i / 6 * 7);
        }
        Due.holds("runs of 6", only(parts(runs, 1, false), "match").replace("5 1 by 259 0", "").isBlank());
        Due.same("the distance 1", only(parts(runs, 1, false), "h").split(" ")[2], "0");
        for (long seed = 0; seed < 30; seed++) {
            byte[] input = letters(500 + 100 * (int) seed, 4, seed);
            BlockPacker x = packed(input, 16, true);
            int last = 29;
            while (last > 0 && x.length(1, last) == 0) {
                last--;
            }
            Due.same("d, " + seed, only(parts(input, 16, true), "h").split(" ")[2], "" + last);
        }
    }

    private static void smallestC() {
        Due.sentence("Terms (9)", "c likewise");
        // The last one of the 19 that is needed is 1; 7; 4; 15.
        Due.same("lengths of 1", only(parts(many(100, 97), 0, false), "h"), "0 d 0 c 14");
        byte[] seven = new byte[127 * 32];
        for (int i = 0; i < seven.length; i++) {
            seven[i] = (byte) (i % 127);
        }
        Due.same("lengths of 7", only(parts(seven, 0, false), "h"), "0 d 0 c 2");
        Due.same("lengths of 4", only(parts(fifteen(15), 0, false), "h"), "0 d 0 c 8");
        Due.same("lengths of 15", only(parts(fibonacci(), 0, false), "h"), "0 d 0 c 15");
    }

    /** The items by which the lengths are told, without their places. */
    private static String tale(byte[] input) {
        return only(parts(input, 0, false), "told").replaceAll(" from [0-9]+", "");
    }

    private static void stretchesOfZeros() {
        Due.sentence("Terms (9)", "0 by 18 as often as 11 are left (138 at most each), then by 17 if 3 are left, then one"
            + " by one");
        int[] zeros = {0, 1, 2, 3, 4, 10, 11, 12, 137, 138, 139, 140, 141, 148, 149, 150, 253, 254, 255};
        String[] before = {"", "0 ", "0 0 ", "17+0 ", "17+1 ", "17+7 ", "18+0 ", "18+1 ", "18+126 ", "18+127 ",
            "18+127 0 ", "18+127 0 0 ", "18+127 17+0 ", "18+127 17+7 ", "18+127 18+0 ", "18+127 18+1 ",
            "18+127 18+104 ", "18+127 18+105 ", "18+127 18+106 "};
        String[] behind = {"18+127 18+106 ", "18+127 18+105 ", "18+127 18+104 ", "18+127 18+103 ", "18+127 18+102 ",
            "18+127 18+96 ", "18+127 18+95 ", "18+127 18+94 ", "18+107 ", "18+106 ", "18+105 ", "18+104 ", "18+103 ",
            "18+96 ", "18+95 ", "18+94 ", "0 0 ", "0 ", ""};
        for (int i = 0; i < zeros.length; i++) {
            // This byte and 256 have one bit each; no distance has one.
            Due.same(zeros[i] + " zeros at first", tale(many(100, zeros[i])), before[i] + "1 " + behind[i] + "1 0");
        }
    }

    /** Fifteen bytes, each as often: with 256 all have 4 bits. The first ones are side by side, the others apart. */
    private static byte[] fifteen(int sideBySide) {
        byte[] bytes = new byte[300];
        for (int i = 0; i < 300; i++) {
            int s = i % 15;
            bytes[i] = (byte) (s < sideBySide ? s : 100 + 2 * s);
        }
        return bytes;
    }

    private static void stretchesOfOthers() {
        Due.sentence("Terms (9)", "others once, then by 16 as often as 3 are left (6 at most each), then one by one");
        String[] want = {"", "4", "4 4", "4 4 4", "4 16+0", "4 16+1", "4 16+2", "4 16+3", "4 16+3 4", "4 16+3 4 4",
            "4 16+3 16+0", "4 16+3 16+1", "4 16+3 16+2", "4 16+3 16+3", "4 16+3 16+3 4", "4 16+3 16+3 4 4"};
        for (int n = 1; n <= 15; n++) {
            String tale = tale(fifteen(n));
            // Behind them there are zeros, more than 10.
            Due.same(n + " times 4", tale.substring(0, Math.max(tale.indexOf(" 18"), 0)), want[n]);
        }
    }

    /** All bytes, mixed, each as often as its place among four tells: side by side there are hardly the same lengths. */
    private static List<Integer> uneven(int[] four, double part, Random random) {
        List<Integer> bytes = new ArrayList<>();
        for (int b = 0; b < 256; b++) {
            for (int k = 0; k < Math.max(1, four[b % 4] * part); k++) {
                bytes.add(b);
            }
        }
        Collections.shuffle(bytes, random);
        return bytes;
    }

    /** These bytes, and behind some of them repetitions of all lengths from near and far: of one block. */
    private static byte[] repeating(List<Integer> bytes, int every, Random random) {
        byte[] row = new byte[4096];
        int n = 0;
        for (int i = 0; i < bytes.size() && n < row.length; i++) {
            row[n] = (byte) (int) bytes.get(i);
            n++;
            boolean repeats = n > 10 && random.nextInt(every) == 0;
            int length = repeats ? 3 + (int) (120 * StrictMath.pow(random.nextDouble(), 4)) : 0;
            int distance = (int) StrictMath.pow(n, random.nextDouble());
            for (int end = Math.min(n + length, row.length); n < end; n++) {
                row[n] = row[n - distance];
            }
        }
        return Arrays.copyOf(row, n);
    }

    private static void longTale() throws DataFormatException {
        Due.sentence("Terms (9)", "the row of lengths (those of symbols and distances together) is told so: [..] others"
            + " once, [..] then one by one");
        int[][] fours = {{32, 16, 8, 4}, {32, 8, 16, 4}, {40, 1, 16, 2}, {45, 2, 12, 1}, {30, 1, 30, 1}};
        for (int[] four : fours) {
            byte[] input = repeating(uneven(four, 1, new Random(1)), Integer.MAX_VALUE, new Random(1));
            String name = "bytes " + Arrays.toString(four) + " times";
            Due.same(name + ", made", packed(input, 0, false).told(3), 1);
            Due.same(name + ", all of 258 by themselves", tale(input).split(" ").length, 258);
            whole(name, input, 0, false);
        }
        int most = 0;
        for (int seed = 0; seed < 15; seed++) {
            Random random = new Random(seed);
            List<Integer> bytes = uneven(fours[seed % 5], 0.3 + 0.6 * random.nextDouble(), random);
            byte[] input = repeating(bytes, 4 + random.nextInt(20), random);
            most = Math.max(most, only(parts(input, 128, false), "told").split(" from ").length - 1);
            whole("with matches, " + seed, input, 128, false);
        }
        Due.holds("nearly all that there can be, " + most, most > 290);
    }

    private static void stretchOverTheBorder() {
        Due.sentence("Terms (9)", "the row of lengths (those of symbols and distances together) is told so: of a stretch of"
            + " the same ones, as long as it goes");
        // Rows that were found by trying: a 16 begins before the first distance, and ends behind it.
        for (long seed : new long[] {142, 163, 205, 291}) {
            List<String> parts = parts(Rows.made(new Random(seed), 900), 16, false);
            int border = 257 + Integer.parseInt(only(parts, "h").split(" ")[0]);
            boolean over = false;
            for (String part : parts) {
                String[] words = part.split("[ +]");
                if (words[0].equals("told") && words[1].equals("16")) {
                    int from = Integer.parseInt(words[4]);
                    over |= from < border && from + 3 + Integer.parseInt(words[2]) > border;
                }
            }
            Due.holds("a 16 goes over the border, " + seed, over);
        }
    }

    private static void storedAsFixed() {
        Due.sentence("Terms (9)", "A block is stored, if that takes no more bits (its first three and those up to the end"
            + " of a byte among them) than the others");
        // 3 + 5 + 32 + 8 n bits stored, 3 + 9 n + 7 fixed.
        kinds("29 bytes of 9 bits", packed(high(29), 0, false), 0, 1, 0);
        kinds("30 bytes of 9 bits, the same", packed(high(30), 0, false), 1, 0, 0);
        kinds("31 bytes of 9 bits", packed(high(31), 0, false), 1, 0, 0);
        Reference.Packed same = Reference.pack(high(30), 0, false);
        Due.same("bits, stored", same.bits[0], 280);
        Due.same("bits, fixed", same.bits[1], 280);
        Due.holds("more bits, made", same.bits[2] > 280);
    }

    /**
     * Bytes of 9 bits and of 8 bits in a fixed block, mixed, and behind them just one match. Those that come more
     * often stand apart, so that the lengths of a made block take many bits.
     */
    private static byte[] oneMatch(int nines, int eights, int length, int distance) {
        int singles = nines + eights;
        for (long seed = 0; seed < 100; seed++) {
            List<Byte> mixed = new ArrayList<>();
            for (int i = 0; i < singles; i++) {
                mixed.add((byte) (i < nines ? 144 + 37 * i % 112 : 61 * i % 144));
            }
            Collections.shuffle(mixed, new Random(seed));
            byte[] bytes = new byte[singles + length];
            for (int i = 0; i < bytes.length; i++) {
                bytes[i] = i < singles ? mixed.get(i) : bytes[i - distance];
            }
            int[] told = Reference.pack(bytes, 128, false).told;
            if (told[4] == 1 && told[5] == singles) {
                return bytes;
            }
        }
        return new byte[0];
    }

    private static void storedAsFixedWithAMatch() {
        Due.sentence("Terms (9)", "A block is stored, if that takes no more bits [..] than the others; its base and as much"
            + " as a number of e bits behind it tells");
        for (int length = 3; length <= 36; length++) {
            int e = length < 11 ? 0 : length < 19 ? 1 : length < 35 ? 2 : 3;
            for (int distance : new int[] {1, 2, 4, 5, 8, 9, 16, 17, 32, 33, 64, 65, 128, 129, 200}) {
                int farE = distance < 5 ? 0 : bitsOf(distance - 1) - 2;
                // 3 + 5 + 32 + 8 for each byte and the length, or 3 + 8 or 9 for each byte, the match and 7 at the end.
                int nines = 30 + 8 * length - (7 + e + 5 + farE);
                String name = "a match " + length + " " + distance;
                same(name + ", one bit less fixed", oneMatch(nines - 1, 200, length, distance), -1);
                same(name + ", as many bits", oneMatch(nines, 200, length, distance), 0);
                same(name + ", one bit more fixed", oneMatch(nines + 1, 200, length, distance), 1);
            }
        }
    }

    private static int bitsOf(int number) {
        return 32 - Integer.numberOfLeadingZeros(number);
    }

    /** Fixed takes so many bits more than stored, and made more than both. */
    private static void same(String name, byte[] input, int more) {
        Reference.Packed want = Reference.pack(input, 128, false);
        Due.same(name + ": bits", want.bits[1] - want.bits[0], more);
        Due.holds(name + ": more bits, made", want.bits[2] > Math.max(want.bits[0], want.bits[1]));
        kinds(name, packed(input, 128, false), more < 0 ? 0 : 1, more < 0 ? 1 : 0, 0);
    }

    private static void storedAsMade() {
        Due.sentence("Terms (9)", "A block is stored, if that takes no more bits [..] than the others");
        for (long seed : new long[] {523, 2139, 2355, 2809}) {
            Reference.Packed want = Reference.pack(drawn(seed), 0, false);
            Due.same("bits, stored and made, " + seed, want.bits[0], want.bits[2]);
            Due.holds("more bits, fixed, " + seed, want.bits[1] > want.bits[0]);
            kinds("stored as made, " + seed, packed(drawn(seed), 0, false), 1, 0, 0);
        }
    }

    private static void storedWithTheBitsBefore() {
        Due.sentence("Terms (9)", "(its first three and those up to the end of a byte among them)");
        // Where a made block ends, so many bits up to the end of a byte stand before a stored one: with
        // n bytes of 9 bits, stored and fixed take the same if n is 25 more than they are.
        boolean[] seen = new boolean[8];
        for (int seed = 0; seed < 60; seed++) {
            byte[] first = letters(4096, 5, seed);
            int left = only(parts(joined(first, high(37)), 0, false), "up to a byte").trim().length();
            seen[left] = true;
            kinds("n is as many", packed(joined(first, high(25 + left)), 0, false), 1, 0, 1);
            kinds("n is one less", packed(joined(first, high(24 + left)), 0, false), 0, 1, 1);
        }
        for (int left = 0; left < 8; left++) {
            Due.holds(left + " bits came", seen[left]);
        }
    }

    private static void fixedAsMade() {
        Due.sentence("Terms (9)", "otherwise fixed, if that takes no more than made, otherwise made");
        for (long seed : new long[] {33, 304, 537, 1124}) {
            Reference.Packed want = Reference.pack(drawn(seed), 0, false);
            Due.same("bits, fixed and made, " + seed, want.bits[1], want.bits[2]);
            Due.holds("more bits, stored, " + seed, want.bits[0] > want.bits[1]);
            kinds("fixed as made, " + seed, packed(drawn(seed), 0, false), 0, 1, 0);
        }
        // Where a byte more makes it made: fixed as long as it is not more.
        for (int n = 1; n < 60; n++) {
            Reference.Packed want = Reference.pack(many(n, 97), 0, false);
            boolean fixed = want.bits[1] <= want.bits[2];
            kinds(n + " times a", packed(many(n, 97), 0, false), 0, fixed ? 1 : 0, fixed ? 0 : 1);
        }
    }

    private static void allOfTheInput() throws DataFormatException {
        Due.sentence("9 pack", "The output becomes the input, packed: how many bytes.");
        for (int n : new int[] {0, 1, 4095, 4096, 4097, 8191, 8192}) {
            whole("even bytes", even(n, n), 8, true);
            whole("letters", letters(n, 3, n), 8, true);
            whole("zeros", new byte[n], 8, true);
        }
        // What stood in the output before is gone: 8208 bytes, then 8.
        BlockPacker x = packed(Rows.unlike(8192, 1), 0, false);
        Due.same("size(1)", x.size(1), 8208);
        x.cut(0);
        Due.same("pack(0, false) of none", x.pack(0, false), 8);
        Due.same("size(1) of none", x.size(1), 8);
        Due.same("at(1, 8)", x.at(1, 8), BlockPacker.NONE);
        Due.same("pack(0, false) of none again", x.pack(0, false), 8);
    }

    private static void chainBad() {
        Due.sentence("9 pack", "BAD, refused, when chain is not 0 .. 128.");
        for (int chain : new int[] {LEAST, -128, -1, 129, 256, MOST}) {
            Due.same("pack(" + chain + ", false)", new BlockPacker().pack(chain, false), BAD);
            Due.same("pack(" + chain + ", true)", new BlockPacker().pack(chain, true), BAD);
        }
        for (int chain = 0; chain <= 128; chain++) {
            Due.same("pack(" + chain + ", false)", new BlockPacker().pack(chain, false), 8);
            Due.same("pack(" + chain + ", true)", new BlockPacker().pack(chain, true), 8);
        }
    }

    private static void chainRefused() {
        Due.sentence("9 pack", "BAD, refused");
        BlockPacker x = new BlockPacker();
        for (int chain : new int[] {-1, 129}) {
            x.pack(chain, true);
            Due.same("size(1) of a new object", x.size(1), 0);
            Due.same("told(0) of a new object", x.told(0), 0);
            Due.same("length(0, 256) of a new object", x.length(0, 256), 0);
        }
        Rows.give(x, text("abcabcabcd"));
        int n = x.pack(8, false);
        byte[] output = Rows.content(x, 1);
        int end = x.length(0, 256);
        x.cut(4);
        for (int chain : new int[] {LEAST, -1, 129, MOST}) {
            x.pack(chain, true);
            Due.same("size(0)", x.size(0), 4);
            Due.same("size(1)", x.size(1), n);
            Due.same("the output", Rows.content(x, 1), output);
            Due.same("told(4)", x.told(4), 1);
            Due.same("told(5)", x.told(5), 4);
            Due.same("length(0, 256)", x.length(0, 256), end);
        }
    }

    private static void toldAtFirst() {
        Due.sentence("12 told", "Of the latest pack() (0 at first)");
        BlockPacker x = new BlockPacker();
        for (int k = 0; k <= 5; k++) {
            Due.same("told(" + k + ") of a new object", x.told(k), 0);
        }
        x.fill(2, 1, 100);
        x.unpack();
        for (int k = 0; k <= 5; k++) {
            Due.same("told(" + k + ") before any pack()", x.told(k), 0);
        }
    }

    private static void toldOfStored() {
        Due.sentence("12 told", "4 matches, 5 symbols 0 .. 255 (as they were found, also of stored blocks)");
        byte[] input = Rows.unlike(8192, 19);
        System.arraycopy(input, 100, input, 5000, 4);
        BlockPacker x = packed(input, 8, false);
        kinds("a match in a stored block", x, 2, 0, 0);
        tells("a match in a stored block", x, 2, 1, 8188);
        // 256, which ends each block, is no such symbol.
        tells("two letters", packed(text("ab"), 8, false), 1, 0, 2);
    }

    private static void toldOfTheLatest() {
        Due.sentence("12 told", "Of the latest pack() [..] k = 0 how many blocks, 1 stored ones, 2 fixed ones, 3 made ones");
        BlockPacker x = packed(joined(letters(4096, 4, 1), even(4096, 2)), 8, false);
        kinds("made and stored", x, 1, 0, 1);
        Rows.give(x, joined(even(4096, 2), text("ab")));
        x.pack(8, false);
        kinds("stored and fixed", x, 1, 1, 0);
        x.pack(8, false);
        kinds("the same again", x, 1, 1, 0);
        tells("the same again", x, 2, Reference.pack(joined(even(4096, 2), text("ab")), 8, false).told[4],
            Reference.pack(joined(even(4096, 2), text("ab")), 8, false).told[5]);
        x.take();
        x.unpack();
        kinds("behind an unpack()", x, 1, 1, 0);
        x.cut(0);
        x.pack(8, false);
        kinds("of none", x, 0, 1, 0);
        tells("of none", x, 1, 0, 0);
    }

    private static void toldBad() {
        Due.sentence("12 told", "BAD when k is none of these.");
        BlockPacker x = packed(text("abcabc"), 8, false);
        for (int k : new int[] {LEAST, -1, 8, 9, MOST}) {
            Due.same("told(" + k + ")", x.told(k), BAD);
        }
    }

    private static void lengthAtFirst() {
        Due.sentence("13 length", "0 without one");
        BlockPacker x = new BlockPacker();
        for (int s = 0; s < 286; s++) {
            Due.same("length(0, " + s + ") of a new object", x.length(0, s), 0);
        }
        for (int d = 0; d < 30; d++) {
            Due.same("length(1, " + d + ") of a new object", x.length(1, d), 0);
        }
        x = packed(text("a"), 8, false);
        Due.same("length(0, 97)", x.length(0, 97), 1);
        Due.same("length(0, 98)", x.length(0, 98), 0);
        Due.same("length(0, 285)", x.length(0, 285), 0);
        Due.same("length(1, 0)", x.length(1, 0), 0);
        Due.same("length(1, 29)", x.length(1, 29), 0);
    }

    private static void lengthOfTheLastBlock() {
        Due.sentence("13 length", "in the last block of the latest pack()");
        BlockPacker x = packed(joined(letters(4096, 4, 1), text("yz")), 8, false);
        lengthsAre("yz behind a block of letters", x, 121, 2, 122, 2, 256, 1);
        for (int d = 0; d < 30; d++) {
            Due.same("yz behind a block of letters: length(1, " + d + ")", x.length(1, d), 0);
        }
        x.unpack();
        lengthsAre("behind an unpack()", x, 121, 2, 122, 2, 256, 1);
        x.cut(0);
        lengthsAre("behind a cut()", x, 121, 2, 122, 2, 256, 1);
        x.pack(8, false);
        lengthsAre("of none", x, 256, 1);
    }

    private static void lengthAsIfMade() {
        Due.sentence("13 length", "as if it were a made one");
        BlockPacker fixed = packed(text("aabbb"), 0, false);
        kinds("a fixed block", fixed, 0, 1, 0);
        lengthsAre("a fixed block", fixed, 97, 2, 98, 1, 256, 2);
        // 256 bytes, each once, and 256: the first two of the same count have 9 bits, all others 8.
        byte[] every = new byte[256];
        for (int i = 0; i < 256; i++) {
            every[i] = (byte) i;
        }
        BlockPacker stored = packed(every, 8, false);
        kinds("a stored block", stored, 1, 0, 0);
        for (int s = 0; s <= 256; s++) {
            Due.same("a stored block: length(0, " + s + ")", stored.length(0, s), s < 2 ? 9 : 8);
        }
    }

    private static void lengthBad() {
        Due.sentence("13 length", "BAD when there is no such table, or symbol (0 .. 285, 0 .. 29).");
        for (BlockPacker x : new BlockPacker[] {new BlockPacker(), packed(letters(500, 4, 1), 8, false)}) {
            for (int table : new int[] {LEAST, -1, 2, 3, MOST}) {
                Due.same("length(" + table + ", 0)", x.length(table, 0), BAD);
            }
            for (int symbol : new int[] {LEAST, -1, 286, 287, 288, MOST}) {
                Due.same("length(0, " + symbol + ")", x.length(0, symbol), BAD);
            }
            for (int symbol : new int[] {LEAST, -1, 30, 31, 256, 285, MOST}) {
                Due.same("length(1, " + symbol + ")", x.length(1, symbol), BAD);
            }
            Due.holds("length(0, 0)", x.length(0, 0) >= 0);
            Due.holds("length(0, 285)", x.length(0, 285) >= 0);
            Due.holds("length(1, 0)", x.length(1, 0) >= 0);
            Due.holds("length(1, 29)", x.length(1, 29) >= 0);
        }
    }
}
