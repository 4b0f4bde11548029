import java.util.Arrays;
import java.util.Random;
import java.util.zip.Deflater;

/** Promises 10, 11 and 12 (of unpacking): unpack, read and told. */
public final class UnpackTest extends UnpackDue {
    public static void main(String[] args) {
        heads();
        tooShort();
        storedBlocks();
        fixedBlocks();
        counts();
        repeats();
        lengthCodes();
        madeCodes();
        far();
        full();
        checks();
        deflated();
        spoiled();
        madeUp();
        stays();
        Due.end();
    }

    private static void heads() {
        BlockPacker packer = new BlockPacker();
        for (int x = 0; x < 256; x++) {
            for (int y = 0; y < 256; y++) {
                boolean fine = (256 * x + y) % 31 == 0 && (x & 15) == 8 && x < 128 && (y & 32) == 0;
                packer.cut(0);
                packer.feed(x | y << 8, 2);
                Due.same("head " + x + " " + y, packer.unpack(), fine ? -12 : -11);
                Due.same("head " + x + " " + y + " read()", packer.read(), 16);
            }
        }
        due("half a wrong head", new byte[] {1}, -12, 8);
        due("no head", NOTHING, -12, 0);
    }

    private static void tooShort() {
        byte[] input = Rows.made(new Random(6), 700);
        BlockPacker packer = Rows.packerOf(input);
        packer.pack(8, true);
        byte[] row = Rows.content(packer, 1);
        for (int n = 0; n < row.length; n++) {
            due("the first " + n + " bytes", Arrays.copyOf(row, n), -12, 8 * n);
        }
        due("all bytes", row, 700, 8 * row.length);
    }

    private static void storedBlocks() {
        byte[] five = {1, 2, 3, (byte) 200, 5};
        due("stored", Bits.packed().start(1, 0).stored(five).check(five), 5, 8 * (2 + 1 + 4 + 5 + 4));
        due("stored, none", Bits.packed().start(1, 0).stored(NOTHING).check(NOTHING), 0, 8 * (2 + 1 + 4 + 4));
        Bits many = Bits.packed();
        for (int i = 0; i < 700; i++) {
            many.start(0, 0).stored(NOTHING);
        }
        due("700 blocks", many.start(1, 0).stored(five).check(five), 5, 8 * (2 + 700 * 5 + 10 + 4));
        fault("kind 3", Bits.packed().start(1, 3), KIND, 19);
        fault("kind 3 behind another", Bits.packed().start(0, 0).stored(five).start(0, 3), KIND, 8 * 12 + 3);
        fault("lengths don't fit", Bits.packed().start(1, 0).pad(0).number(5, 16).number(65531, 16), LENGTH, 56);
        fault("lengths half there", Bits.packed().start(1, 0).pad(0).number(5, 16).number(255, 8), SHORT, 48);
        fault("a byte missing", Bits.packed().start(1, 0).pad(0).number(2, 16).number(65533, 16).number(7, 8),
            SHORT, 64);
    }

    private static void fixedBlocks() {
        byte[] abc = {97, 98, 99, 97, 98, 99, 97, 98};
        due("fixed", Bits.packed().start(1, 1).fixed(97).fixed(98).fixed(99).fixed(259).code(2, 5).fixed(256)
            .check(abc), 8, 8 * (2 + 6 + 4));
        Bits wide = Bits.packed().start(1, 1);
        byte[] all = new byte[256];
        for (int b = 0; b < 256; b++) {
            wide.fixed(b);
            all[b] = (byte) b;
        }
        due("every byte", wide.fixed(256).check(all), 256, wide.count());
        for (int s = 286; s <= 287; s++) {
            fault("symbol " + s, Bits.packed().start(1, 1).fixed(97).fixed(s), CODE, 19 + 16);
        }
        for (int d = 30; d <= 31; d++) {
            fault("distance " + d, Bits.packed().start(1, 1).fixed(97).fixed(257).code(d, 5), CODE, 19 + 8 + 7 + 5);
        }
        for (int s = 257; s <= 285; s++) {
            lengthOf(s, 0);
            lengthOf(s, (1 << Reference.extra(s)) - 1);
        }
        for (int d = 0; d < 26; d++) {
            distanceOf(d, 0);
            distanceOf(d, (1 << Reference.farExtra(d)) - 1);
        }
    }

    private static void lengthOf(int s, int more) {
        byte[] same = new byte[1 + Reference.base(s) + more];
        Arrays.fill(same, (byte) 5);
        Bits row = Bits.packed().start(1, 1).fixed(5).fixed(s).number(more, Reference.extra(s)).code(0, 5).fixed(256);
        due("length " + s + " and " + more, row.check(same), same.length, row.count());
    }

    private static void distanceOf(int d, int more) {
        // With what stands round them, so many stored bytes just have room in the input.
        int distance = Math.min(Reference.farBase(d) + more, 8160);
        byte[] first = new byte[distance];
        new Random(d).nextBytes(first);
        byte[] bytes = Arrays.copyOf(first, distance + 3);
        for (int i = distance; i < bytes.length; i++) {
            bytes[i] = bytes[i - distance];
        }
        Bits row = Bits.packed().start(0, 0).stored(first).start(1, 1).fixed(257).code(d, 5)
            .number(distance - Reference.farBase(d), Reference.farExtra(d)).fixed(256).check(bytes);
        due("distance " + distance, row, bytes.length, row.count());
    }

    private static void counts() {
        fault("h of 30", Bits.packed().start(1, 2).number(30, 5).number(0, 5), COUNT, 29);
        fault("h of 31", Bits.packed().start(1, 2).number(31, 5).number(31, 5), COUNT, 29);
        fault("d of 30", Bits.packed().start(1, 2).number(29, 5).number(30, 5), COUNT, 29);
        fault("d of 31", Bits.packed().start(1, 2).number(0, 5).number(31, 5), COUNT, 29);
        // 29 + 11 bits: the number behind both is whole, those of the 19 are missing.
        fault("h and d of 29", Bits.packed().start(1, 2).number(29, 5).number(29, 5).number(0, 4).number(0, 7),
            SHORT, 40);
        fault("h of 30, d missing", Bits.packed().start(1, 2).number(30, 5), SHORT, 24);
    }

    private static void repeats() {
        // 0 has the code 0, 1 has 10, 16 has 110, 18 has 111.
        int[] codes = nineteen(0, 1, 1, 2, 16, 3, 18, 3);
        int head = 16 + 3 + 14 + 57;
        fault("16 at first", Bits.packed().made(1, 0, 0, codes).code("110").number(0, 2), REPEAT, head + 3);
        fault("18 beyond the end", Bits.packed().made(1, 0, 0, codes).code("111").number(127, 7)
            .code("111").number(110, 7), REPEAT, head + 20);
        fault("18 far beyond the end", Bits.packed().made(1, 0, 0, codes).code("111").number(127, 7)
            .code("111").number(127, 7), REPEAT, head + 20);
        fault("16 beyond the end", Bits.packed().made(1, 0, 0, codes).code("111").number(127, 7)
            .code("111").number(107, 7).code("10").code("110").number(0, 2), REPEAT, head + 20 + 2 + 5);
        fault("number missing", Bits.packed().made(1, 0, 0, codes).code("111").number(1, 3), SHORT, 96);
        // 138 + 118 zeros, 256 with a length of 1, a distance with 1: up to the very end.
        Bits fine = Bits.packed().made(1, 0, 0, codes).code("111").number(127, 7).code("111").number(107, 7)
            .code("10").code("10").code("0").check(NOTHING);
        due("just as many", fine, 0, fine.count());
        // The 16 goes over the border between symbols and distances: 256 and three distances have 1 or 2 bits.
        Bits over = Bits.packed().made(1, 0, 2, codes).code("111").number(127, 7).code("111").number(107, 7)
            .code("10").code("110").number(0, 2);
        fault("16 over the border", over, CODES, head + 20 + 2 + 5);
        // 17 has the code 10, 2 has 0, 18 has 11.
        int[] others = nineteen(2, 1, 17, 2, 18, 2);
        Bits seventeen = Bits.packed().made(1, 0, 3, others).code("0").code("0").code("0").code("10").number(0, 3)
            .code("10").number(7, 3).code("11").number(127, 7).code("11").number(91, 7).code("0")
            .code("0").code("0").code("0").code("0");
        int end = head + 3 + 5 + 5 + 9 + 9 + 1 + 4;
        // Symbols 0, 1, 2 and 256 have codes of 2 bits: 00, 01, 10, 11.
        byte[] made = {0, 2, 1};
        due("17", seventeen.code("00").code("10").code("01").code("11").check(made), 3, (end + 8 + 7) / 8 * 8 + 32);
    }

    private static void lengthCodes() {
        int head = 16 + 3 + 14 + 57;
        fault("no codes among the 19", Bits.packed().made(1, 0, 0, nineteen()), CODES, head);
        fault("too many among the 19", Bits.packed().made(1, 0, 0, nineteen(0, 1, 1, 1, 2, 7)), CODES, head);
        fault("too few among the 19", Bits.packed().made(1, 0, 0, nineteen(0, 1, 1, 2)), CODES, head);
        fault("one of 2 bits among the 19", Bits.packed().made(1, 0, 0, nineteen(0, 2)), CODES, head);
        fault("c is 0, 16 and 17 too few", Bits.packed().start(1, 2).number(0, 14).number(1, 3).number(2, 3)
            .number(0, 6), CODES, 16 + 3 + 14 + 12);
        // One code of one bit alone is allowed; its other bit is no beginning of a code.
        fault("one of 1 bit, its other bit", Bits.packed().made(1, 0, 0, nineteen(18, 1)).code("1"), CODE, head + 1);
        fault("one of 1 bit, then no 256", Bits.packed().made(1, 0, 0, nineteen(18, 1)).code("0").number(127, 7)
            .code("0").number(109, 7), CODES, head + 16);
        fault("one of 1 bit, then too many", Bits.packed().made(1, 0, 0, nineteen(1, 1)).code("0".repeat(258)),
            CODES, head + 258);
        fault("c is 0, 18 alone", Bits.packed().start(1, 2).number(0, 14).number(0, 6).number(1, 3).number(0, 3)
            .code("1"), CODE, 16 + 3 + 14 + 12 + 1);
    }

    private static void madeCodes() {
        int[] none = {0};
        Bits row = lengths(symbols(257), none);
        fault("no symbols", row, CODES, row.count());
        row = lengths(symbols(257, 0, 1, 1, 1), none);
        fault("no 256", row, CODES, row.count());
        row = lengths(symbols(257, 0, 1), none);
        fault("no 256, but one symbol of 1 bit", row, CODES, row.count());
        row = lengths(symbols(257, 256, 2), none);
        fault("256 alone of 2 bits", row, CODES, row.count());
        row = lengths(symbols(257, 0, 1, 1, 1, 256, 1), none);
        fault("too many symbols", row, CODES, row.count());
        row = lengths(symbols(257, 0, 1, 1, 1, 256, 15), none);
        fault("too many symbols by the least", row, CODES, row.count());
        row = lengths(symbols(257, 0, 1, 1, 2, 256, 3), none);
        fault("too few symbols", row, CODES, row.count());
        row = lengths(symbols(257, 0, 1, 256, 1), new int[] {1, 1, 1});
        fault("too many distances", row, CODES, row.count());
        row = lengths(symbols(257, 0, 1, 256, 1), new int[] {1, 2});
        fault("too few distances", row, CODES, row.count());
        row = lengths(symbols(257, 0, 1, 256, 1), new int[] {0, 2});
        fault("one distance of 2 bits", row, CODES, row.count());

        row = lengths(symbols(257, 256, 1), none).code("0").check(NOTHING);
        due("256 alone of 1 bit", row, 0, row.count());
        row = lengths(symbols(257, 256, 1), none).code("1");
        fault("256 alone, its other bit", row, CODE, row.count());

        // 0 has the code 0, 256 has 10, 257 has 11.
        int[] three = symbols(258, 0, 1, 256, 2, 257, 2);
        row = lengths(three, none).code("0").code("11");
        int read = row.count();
        fault("no distances at all: no bit is read", row.number(0, 30), CODE, read);
        BlockPacker x = Rows.packerOf(row.bytes());
        x.unpack();
        Due.same("the length's code was read", x.told(7), 1);
        row = lengths(three, new int[] {1}).code("0").code("11").code("0").code("10").check(new byte[4]);
        due("one distance of 1 bit", row, 4, row.count());
        row = lengths(three, new int[] {1}).code("0").code("11").code("1");
        fault("one distance, its other bit", row, CODE, row.count());

        // As many symbols and distances as there can be; codes of 15 bits.
        int[] most = symbols(286, 256, 1);
        int[] far = new int[30];
        for (int k = 2; k <= 15; k++) {
            most[270 + k] = k;
            far[k] = k;
        }
        most[5] = 15;
        far[0] = 1;
        far[29] = 15;
        row = lengths(most, far).code("1".repeat(14) + "0").code("1".repeat(15)).number(0, 0).code("0");
        byte[] made = new byte[259];
        Arrays.fill(made, (byte) 5);
        row = row.code("0").check(made);
        due("codes of 15 bits", row, 259, row.count());
    }

    private static void far() {
        fault("a distance of 1 at first", Bits.packed().start(1, 1).fixed(257).code(0, 5), FAR, 19 + 7 + 5);
        fault("a distance of 2 behind one", Bits.packed().start(1, 1).fixed(9).fixed(257).code(1, 5),
            FAR, 19 + 8 + 7 + 5);
        fault("a distance of 6", Bits.packed().start(1, 1).fixed(9).fixed(257).code(4, 5).number(1, 1),
            FAR, 19 + 8 + 7 + 6);
        for (int window = 0; window <= 4; window++) {
            int most = 256 << window;
            byte[] bytes = new byte[most + 10];
            new Random(window).nextBytes(bytes);
            int x = 16 * window + 8;
            int y = 31 - 256 * x % 31;
            Bits fine = new Bits().number(x, 8).number(y, 8).start(0, 0).stored(bytes).start(1, 1).fixed(257);
            // The distance just as far as it may be, and the one behind it.
            int d = 2 * (8 + window) - 1;
            fine.code(d, 5).number(-1, Reference.farExtra(d)).fixed(256);
            byte[] made = Arrays.copyOf(bytes, most + 13);
            System.arraycopy(bytes, 10, made, most + 10, 3);
            due("window " + window, fine.check(made), most + 13, fine.count());
            Bits beyond = new Bits().number(x, 8).number(y, 8).start(0, 0).stored(bytes).start(1, 1).fixed(257);
            beyond.code(d + 1, 5).number(0, Reference.farExtra(d + 1));
            fault("beyond window " + window, beyond, FAR, beyond.count());
        }
    }

    private static void full() {
        byte[] bytes = new byte[8192];
        for (int fault = 0; fault < 4; fault++) {
            Bits row = Bits.packed().start(0, 1).fixed(0);
            for (int i = 0; i < 31; i++) {
                row.fixed(285).code(0, 5);
            }
            // 1 + 31 * 258 are 7999; 193 more are all.
            row.fixed(282).number(193 - 163, 5).code(0, 5);
            if (fault == 0) {
                due("just full", row.fixed(256).start(1, 1).fixed(256).check(bytes), 8192, row.count());
            } else if (fault == 1) {
                fault("a byte more", row.fixed(7), FULL, row.count());
            } else if (fault == 2) {
                fault("a match more", row.fixed(285).code(0, 5), FULL, row.count());
            } else {
                fault("a stored byte more", row.fixed(256).start(1, 0).pad(0).number(2, 16).number(65533, 16)
                    .number(7, 8), FULL, row.count());
            }
            BlockPacker x = Rows.packerOf(row.bytes());
            x.unpack();
            Due.same("full: size(1)", x.size(1), 8192);
        }
        Bits over = Bits.packed().start(0, 0).stored(new byte[8100]).start(1, 1).fixed(279).number(0, 4).code(0, 5)
            .number(0, 9);
        fault("a match over the end of room", over, FULL, over.count() - 9);
        Bits far = Bits.packed().start(0, 0).stored(new byte[8100]).start(1, 1).fixed(276).number(7, 3).code(0, 5)
            .fixed(270).number(3, 2).code(0, 5).fixed(285).code(26, 5).number(0, 12);
        fault("a distance that is too far when there is no room", far, FAR, far.count());
    }

    private static void checks() {
        byte[] a = {97};
        for (int bit = 0; bit < 32; bit++) {
            byte[] row = Bits.packed().start(1, 1).fixed(97).fixed(256).check(a).bytes();
            row[row.length - 1 - bit / 8] ^= (byte) (1 << bit % 8);
            due("check with bit " + bit + " wrong", row, -21, 8 * row.length);
        }
        Bits rest = Bits.packed().start(1, 1).fixed(97).fixed(256).check(a);
        int read = rest.count();
        fault("a byte behind it", rest.number(0, 8), REST, read);
        fault("bytes behind it", rest.number(7, 24), REST, read);
        byte[] wrong = rest.bytes();
        wrong[read / 8 - 1] ^= 1;
        due("a wrong check and bytes behind it", wrong, -10 - CHECK, read);
        // The bits up to the end of a byte may be anything.
        Bits ones = Bits.packed().start(1, 1).fixed(97).fixed(256).pad(1).check(a);
        due("ones up to the end of a byte", ones, 1, ones.count());
        byte[] high = new byte[8000];
        Arrays.fill(high, (byte) 255);
        due("a check of great sums", Bits.packed().start(1, 0).stored(high).check(high), 8000, 8 * 8011);
        due("a wrong head", new byte[] {120, (byte) 157, 3, 0, 0, 0, 0, 1}, -10 - HEAD, 16);
    }

    private static void deflated() {
        Random random = new Random(21);
        int[] strategies = {Deflater.DEFAULT_STRATEGY, Deflater.FILTERED, Deflater.HUFFMAN_ONLY};
        for (int i = 0; i < 300; i++) {
            byte[] bytes = Rows.made(random, random.nextInt(i % 5 == 0 ? 8193 : 900));
            Deflater deflater = new Deflater(i % 10);
            deflater.setStrategy(strategies[i % 3]);
            byte[] row = new byte[10000];
            int n = 0;
            // Flushes make rows of many blocks, empty stored ones among them.
            int half = bytes.length / 2;
            deflater.setInput(bytes, 0, half);
            while (!deflater.needsInput()) {
                n += deflater.deflate(row, n, row.length - n, Deflater.SYNC_FLUSH);
            }
            deflater.setInput(bytes, half, bytes.length - half);
            deflater.finish();
            while (!deflater.finished()) {
                n += deflater.deflate(row, n, row.length - n);
            }
            deflater.end();
            if (n <= 8192) {
                due("deflated row " + i, Arrays.copyOf(row, n), bytes.length, 8 * n);
            }
        }
    }

    /** Rows with some bits turned over: whatever is wrong with them is as the reference tells it. */
    private static void spoiled() {
        Random random = new Random(31);
        int[] seen = new int[13];
        for (int i = 0; i < 300; i++) {
            byte[] bytes = Rows.made(random, random.nextInt(400));
            BlockPacker packer = Rows.packerOf(bytes);
            packer.pack(random.nextInt(129), random.nextBoolean());
            byte[] row = Rows.content(packer, 1);
            for (int k = 0; k < 40; k++) {
                byte[] other = row.clone();
                int turns = 1 + random.nextInt(3);
                for (int t = 0; t < turns; t++) {
                    int place = 2 + random.nextInt(Math.min(other.length - 2, k % 2 == 0 ? 40 : other.length));
                    other[Math.min(place, other.length - 1)] ^= (byte) (1 << random.nextInt(8));
                }
                seen[asReference("spoiled row " + i + "." + k, other)]++;
            }
        }
        for (int fault : new int[] {SHORT, KIND, LENGTH, COUNT, REPEAT, CODES, CODE, FAR, CHECK}) {
            Due.holds("a spoiled row has the fault " + fault, seen[fault] > 0);
        }
    }

    /** Made blocks with lengths drawn at random, so that all the tables' faults come often. */
    private static void madeUp() {
        Random random = new Random(41);
        for (int i = 0; i < 4000; i++) {
            Bits row = Bits.packed().start(random.nextInt(2), 2).number(random.nextInt(30), 5)
                .number(random.nextInt(30), 5).number(14, 4);
            int[] lengths = random.nextBoolean() ? nineteen(0, 2, 1, 2, 2, 2, 16, 3, 18, 3)
                : nineteen(18, 1, 1 + random.nextInt(15), 1);
            for (int k = 0; k < 18; k++) {
                row.number(lengths[Reference.ORDER[k]], 3);
            }
            for (int k = 0; k < 40; k++) {
                row.number(random.nextInt() & random.nextInt(), 16);
            }
            asReference("made up row " + i, row.bytes());
        }
    }

    /** What was read and told stays until the next unpack(), whatever else is called. */
    private static void stays() {
        byte[] row = Bits.packed().start(1, 1).fixed(97).fixed(257).code(0, 5).fixed(256)
            .check(new byte[] {97, 97, 97, 97}).bytes();
        BlockPacker x = Rows.packerOf(row);
        Due.same("unpack()", x.unpack(), 4);
        x.cut(3);
        x.take();
        x.pack(8, true);
        x.fill(1, 1, 50);
        Due.same("read() later", x.read(), 8 * row.length);
        Due.same("told(6) later", x.told(6), 1);
        Due.same("told(7) later", x.told(7), 1);
        x.cut(0);
        Due.same("unpack() of nothing", x.unpack(), -12);
        Due.same("read() of nothing", x.read(), 0);
        Due.same("told(6) of nothing", x.told(6), 0);
        Due.same("told(7) of nothing", x.told(7), 0);
        Due.same("size(1) of nothing", x.size(1), 0);
    }
}
