import java.util.Arrays;
import java.util.Random;

/** Promises 10, 11 and 12 (of unpacking) and their terms: each sentence that names an edge has a test of its own. */
public final class EdgesOfUnpackingTest extends UnpackDue {
    /** Bits up to the codes' lengths of a made block that begins behind the head and tells all of the 19. */
    private static final int TALE = 16 + 3 + 14 + 57;

    public static void main(String[] args) {
        bitsFromTheLowest();
        lastBlockAlone();
        bitsBehindTheLastBlock();
        checkOfNothing();
        checkHighestFirst();
        checkModulo();
        bitsBeforeStored();
        storedOfNone();
        storedOfMost();
        fixedCodes();
        madeLeastAndMost();
        nineteenThatAreLeft();
        orderOfNineteen();
        sixteen();
        sixteenOfZeros();
        seventeen();
        eighteen();
        oneRow();
        lesserSymbolsFirst();
        lengthZeroHasNoCode();
        codesOverAGap();
        codesOfFifteen();
        lengthsWithoutMore();
        lengthsWithMore();
        length258();
        distancesWithoutMore();
        distancesWithMore();
        bytesJustBeingMade();
        head31();
        headLowerBits();
        headUpperBits();
        headBit32();
        headBehindTwoBytes();
        shortHead();
        shortBlock();
        shortStored();
        shortMade();
        shortSymbols();
        shortCheck();
        kind3();
        lengthsThatDontFit();
        countOfSymbols();
        countOfDistances();
        countBehindBoth();
        repeatAtFirst();
        repeatBeyondTheEnd();
        codesOfNineteenAboveOne();
        codesOfNineteenBelowOne();
        codesOfSymbolsAboveOne();
        codesOfSymbolsBelowOne();
        codesOfDistancesAboveOne();
        codesOfDistancesBelowOne();
        oneCodeAlone();
        noDistances();
        no256();
        codesBehindTheLast();
        noBeginningOfACode();
        noCodeAtAll();
        noCodeAtAllBehindOthers();
        shortBeforeNoCode();
        shortBeforeRepeat();
        symbolAbove285();
        distanceAbove29();
        farBeyondTheFirst();
        farBeyondTheWindow();
        farBeforeFull();
        fullByByte();
        fullByMatch();
        fullByStored();
        wrongCheck();
        rest();
        firstFaultOnly();
        outputUpToAFault();
        outputOfNothing();
        answers();
        readAtFirst();
        readUpToTheEnd();
        readWithoutTheMissing();
        toldAtFirst();
        toldBlocks();
        toldMatches();
        toldOfTheLatest();
        toldBad();
        Due.end();
    }

    private static byte[] bytes(int... values) {
        byte[] bytes = new byte[values.length];
        for (int i = 0; i < bytes.length; i++) {
            bytes[i] = (byte) values[i];
        }
        return bytes;
    }

    private static byte[] same(int n, int value) {
        byte[] bytes = new byte[n];
        Arrays.fill(bytes, (byte) value);
        return bytes;
    }

    private static byte[] even(int n, int seed) {
        byte[] bytes = new byte[n];
        new Random(seed).nextBytes(bytes);
        return bytes;
    }

    /** A row that comes to its end, with a check of what it makes. */
    private static void fine(String name, Bits row, byte[] made) {
        row.check(made);
        due(name, row, made.length, row.count());
        BlockPacker x = Rows.packerOf(row.bytes());
        x.unpack();
        Due.same(name + ": what was made", Rows.content(x, 1), made);
    }

    /** The fault comes just behind the row's last bit; what stands behind that is not looked at. */
    private static void here(String name, Bits row, int fault) {
        int read = row.count();
        fault(name, row, fault, read);
        fault(name + ", ones behind it", row.number(-1, 32), fault, read);
    }

    /** The row ends within what is named: all of its bits are read. */
    private static void missing(String name, Bits row, int blocks, int matches, byte[] made) {
        Due.holds(name + ": whole bytes", row.count() % 8 == 0);
        leaves(name, row, -10 - SHORT, row.count(), blocks, matches, made);
    }

    private static Bits fixed() {
        return Bits.packed().start(1, 1);
    }

    /** A fixed block of so many bytes 200: as each has nine bits, the row's end can come to stand anywhere in a byte. */
    private static Bits nines(int first, int n) {
        Bits row = Bits.packed().start(first, 1);
        for (int i = 0; i < n; i++) {
            row.fixed(200);
        }
        return row;
    }

    private static Bits nines(int n) {
        return nines(1, n);
    }

    private static void bitsFromTheLowest() {
        Due.sentence("Terms (10)", "A NUMBER of k bits has its lowest bit first; a CODE its highest bit first.");
        // 1, 01, then 10010001 (97 of a fixed block) and 0000000: 1 10 10010 001 00000 00.
        BlockPacker x = Rows.packerOf(bytes(0x78, 0x9C, 0x4B, 0x04, 0x00, 0x00, 0x62, 0x00, 0x62));
        Due.same("unpack()", x.unpack(), 1);
        Due.same("at(1, 0)", x.at(1, 0), 97);
        Due.same("read()", x.read(), 72);
    }

    private static void lastBlockAlone() {
        Due.sentence("Terms (10)", "BLOCKS, of which just the last one has a first bit 1 (all others 0)");
        for (int others = 0; others <= 40; others++) {
            Bits row = Bits.packed();
            for (int i = 0; i < others; i++) {
                row.start(0, 1).fixed(i).fixed(256);
            }
            byte[] made = new byte[others];
            for (int i = 0; i < others; i++) {
                made[i] = (byte) i;
            }
            row.start(1, 1).fixed(256).check(made);
            leaves(others + " blocks before the last", row, others, row.count(), others + 1, 0, made);
        }
        // Behind the last one there is none: what would be one more is taken for the check.
        Bits more = Bits.packed().start(1, 0).stored(NOTHING).start(1, 0).stored(NOTHING).check(NOTHING);
        leaves("a block behind the last one", more, -10 - CHECK, 8 * (2 + 5 + 4), 1, 0, NOTHING);
    }

    private static void bitsBehindTheLastBlock() {
        Due.sentence("Terms (10)", "bits up to the end of a byte (whatever they are); then the CHECK");
        boolean[] seen = new boolean[8];
        for (int nines = 0; nines < 8; nines++) {
            for (int bit = 0; bit <= 1; bit++) {
                Bits row = nines(nines).fixed(256);
                int left = (8 - row.count() % 8) % 8;
                seen[left] = true;
                fine(left + " bits " + bit, row.pad(bit), same(nines, 200));
            }
        }
        for (int left = 0; left < 8; left++) {
            Due.holds(left + " bits came", seen[left]);
        }
    }

    private static void checkOfNothing() {
        Due.sentence("Terms (10)", "a being 1 and all bytes that are packed, b the sum of all values that a has behind"
            + " each of them");
        Bits row = fixed().fixed(256).pad(0).number(0, 24).number(1, 8);
        leaves("no bytes: a is 1, b is 0", row, 0, row.count(), 1, 0, NOTHING);
        row = fixed().fixed(0).fixed(256).pad(0).number(0, 8).number(1, 8).number(0, 8).number(1, 8);
        leaves("a byte 0: a is 1, b is 1", row, 1, row.count(), 1, 0, bytes(0));
        row = fixed().fixed(255).fixed(255).fixed(256).pad(0).number(2, 8).number(0xFF, 8).number(1, 8).number(0xFF, 8);
        leaves("twice 255: a is 511, b 256 + 511", row, 2, row.count(), 1, 0, bytes(255, 255));
    }

    private static void checkHighestFirst() {
        Due.sentence("Terms (10)", "then the CHECK in four bytes, the highest first: 65536 b + a");
        // The bytes 1, 2, 3: a is 7, b is 2 + 4 + 7.
        Bits row = fixed().fixed(1).fixed(2).fixed(3).fixed(256).pad(0);
        int read = row.count() + 32;
        leaves("0 13 0 7", row.number(0, 8).number(13, 8).number(0, 8).number(7, 8), 3, read, 1, 0, bytes(1, 2, 3));
        row = fixed().fixed(1).fixed(2).fixed(3).fixed(256).pad(0);
        leaves("7 0 13 0", row.number(7, 8).number(0, 8).number(13, 8).number(0, 8), -21, read, 1, 0, bytes(1, 2, 3));
        row = fixed().fixed(1).fixed(2).fixed(3).fixed(256).pad(0);
        leaves("0 7 0 13", row.number(0, 8).number(7, 8).number(0, 8).number(13, 8), -21, read, 1, 0, bytes(1, 2, 3));
    }

    private static void checkModulo() {
        Due.sentence("Terms (10)", "both modulo 65521");
        // 256 times 255 and 239, 240 or 241: a is 65520, 65521 or 65522.
        for (int last = 239; last <= 241; last++) {
            byte[] made = same(257, 255);
            made[256] = (byte) last;
            // All values that a has: 256 + 511 + .. + 65281, and the last one, which may be above the modulus.
            long b = 256 + 255L * 256 * 257 / 2 + (65281 + last) % 65521;
            int low = (65281 + last) % 65521;
            Due.same("a", low, last == 239 ? 65520 : last == 240 ? 0 : 1);
            checked("a last byte of " + last, made, (int) (b % 65521), low);
        }
        // A byte v and zeros behind it: a is 1 + v, b as often 1 + v as there are bytes.
        byte[] below = new byte[4095];
        below[0] = 15;
        checked("b is 4095 * 16", below, 65520, 16);
        byte[] just = new byte[4095];
        just[0] = 15;
        just[4094] = 1;
        checked("b is 4094 * 16 + 17", just, 0, 17);
        byte[] above = new byte[362];
        above[0] = (byte) 180;
        checked("b is 362 * 181", above, 1, 181);
    }

    private static void checked(String name, byte[] made, int b, int a) {
        Bits row = Bits.packed().start(1, 0).stored(made).number(b >> 8, 8).number(b, 8).number(a >> 8, 8).number(a, 8);
        leaves(name, row, made.length, row.count(), 1, 0, made);
    }

    private static void bitsBeforeStored() {
        Due.sentence("Terms (10)", "STORED (0): bits up to the end of the byte (whatever they are)");
        boolean[] seen = new boolean[8];
        for (int nines = 0; nines < 8; nines++) {
            for (int bit = 0; bit <= 1; bit++) {
                Bits row = nines(0, nines).fixed(256).start(1, 0);
                int left = (8 - row.count() % 8) % 8;
                seen[left] = true;
                row.pad(bit).stored(bytes(5, 6));
                byte[] made = Arrays.copyOf(same(nines, 200), nines + 2);
                made[nines] = 5;
                made[nines + 1] = 6;
                fine(left + " bits " + bit, row, made);
            }
        }
        for (int left = 0; left < 8; left++) {
            Due.holds(left + " bits came", seen[left]);
        }
    }

    private static void storedOfNone() {
        Due.sentence("Terms (10)", "a number n of 16 bits, 65535 - n in 16 bits, n bytes");
        Bits row = Bits.packed().start(1, 0).pad(0).number(0, 16).number(65535, 16);
        fine("n is 0", row, NOTHING);
        row = Bits.packed().start(1, 0).pad(0).number(1, 16).number(65534, 16).number(255, 8);
        fine("n is 1", row, bytes(255));
        row = Bits.packed().start(1, 0).pad(0).number(256, 16).number(65279, 16);
        for (int i = 0; i < 256; i++) {
            row.number(i, 8);
        }
        byte[] all = new byte[256];
        for (int i = 0; i < 256; i++) {
            all[i] = (byte) i;
        }
        fine("n is 256", row, all);
    }

    private static void storedOfMost() {
        Due.sentence("Terms (10)", "65535 - n in 16 bits, n bytes");
        // As many stored bytes as the input can have with all that stands round them.
        byte[] made = even(8192 - 2 - 5 - 4, 9);
        fine("n is 8181", Bits.packed().start(1, 0).stored(made), made);
        Bits row = Bits.packed().start(1, 0).pad(0).number(65535, 16).number(0, 16).number(7, 8);
        missing("n is 65535", row, 1, 0, bytes(7));
    }

    private static void fixedCodes() {
        Due.sentence("Terms (10)", "symbols 0 .. 143 8 bits, 144 .. 255 9, 256 .. 279 7, 280 .. 287 8;"
            + " distances 0 .. 31 5 bits");
        fine("the first and last byte of 8 bits", fixed().code("00110000").code("10111111").code("0000000"),
            bytes(0, 143));
        fine("the first and last byte of 9 bits", fixed().code("110010000").code("111111111").code("0000000"),
            bytes(144, 255));
        fine("257, of 7 bits", fixed().code("00110111").code("0000001").code("00000").code("0000000"), same(4, 7));
        fine("279, the last one of 7 bits, and 15 more", fixed().code("00110111").code("0010111").code("1111")
            .code("00000").code("0000000"), same(115, 7));
        fine("280, the first one of 8 bits", fixed().code("00110111").code("11000000").code("0000").code("00000")
            .code("0000000"), same(116, 7));
        fine("285", fixed().code("00110111").code("11000101").code("00000").code("0000000"), same(259, 7));
        here("287, the last one of 8 bits", fixed().code("11000111"), CODE);
        fine("the distance 3", fixed().fixed(1).fixed(2).fixed(3).fixed(4).fixed(257).code("00011").fixed(256),
            bytes(1, 2, 3, 4, 1, 2, 3));
        here("the distance 31", fixed().fixed(1).fixed(257).code("11111"), CODE);
    }

    private static void madeLeastAndMost() {
        Due.sentence("Terms (10)", "h + 257 lengths of the codes for symbols and d + 1 for distances");
        fine("h is 0, d is 0", lengths(symbols(257, 9, 1, 256, 1), new int[] {0}).code("0").code("1"), bytes(9));
        // 9 has the code 0, 256 has 10, 285 has 11; the distance 0 has 0, and 29 has 1.
        int[] far = new int[30];
        far[0] = 1;
        far[29] = 1;
        Bits row = lengths(symbols(286, 9, 1, 256, 2, 285, 2), far).code("0").code("11").code("0").code("10");
        fine("h is 29, d is 29", row, same(259, 9));
        row = lengths(symbols(286, 9, 1, 256, 2, 285, 2), far).code("0").code("11").code("1").number(0, 13);
        here("the distance 29 of a made block", row, FAR);
    }

    private static void nineteenThatAreLeft() {
        Due.sentence("Terms (10)", "c + 4 numbers of 3 bits [..] (those that are left have 0)");
        // c is 0: just 16, 17, 18 and 0 are told. The others have no code, though they, and the symbols of the
        // same numbers, had one in the block before.
        int[] sixteen = symbols(257, 256, 4);
        Arrays.fill(sixteen, 1, 16, 4);
        Bits row = Bits.packed().made(0, 0, 0, nineteen(0, 4, 1, 4, 2, 4, 3, 4, 4, 4, 5, 4, 6, 4, 7, 4, 8, 4, 9, 4,
            10, 4, 11, 4, 12, 4, 13, 4, 14, 4, 15, 4));
        for (int length : sixteen) {
            row.code(length, 4);
        }
        row.code(0, 4).code("1111");
        row.start(1, 2).number(0, 5).number(0, 5).number(0, 4).number(0, 3).number(0, 3).number(1, 3).number(1, 3);
        row.code("1").number(127, 7).code("1").number(108, 7);
        here("c is 0: 257 zeros by 18", row.code("0"), CODES);
        // c is 14: the last one of the 19 (15) is not told, the one before it (1) is.
        row = Bits.packed().start(1, 2).number(0, 5).number(0, 5).number(14, 4);
        for (int i = 0; i < 18; i++) {
            row.number(Reference.ORDER[i] == 18 || Reference.ORDER[i] == 1 ? 1 : 0, 3);
        }
        row.code("1").number(127, 7).code("1").number(107, 7).code("0").code("0").code("0");
        fine("c is 14", row, NOTHING);
        // c is 15: all of them, 15 as well.
        row = Bits.packed().start(1, 2).number(0, 5).number(0, 5).number(15, 4);
        for (int i = 0; i < 19; i++) {
            row.number(Reference.ORDER[i] == 18 || Reference.ORDER[i] == 15 ? 1 : 0, 3);
        }
        row.code("1").number(127, 7).code("1").number(107, 7).code("0").code("0");
        here("c is 15: 256 alone has 15 bits", row, CODES);
    }

    private static void orderOfNineteen() {
        Due.sentence("Terms (10)", "the lengths of codes for 16 17 18 0 8 7 9 6 10 5 11 4 12 3 13 2 14 1 15, in this"
            + " order");
        int[] order = {16, 17, 18, 0, 8, 7, 9, 6, 10, 5, 11, 4, 12, 3, 13, 2, 14, 1, 15};
        for (int place = 4; place < 19; place++) {
            // The length k and 0 have codes of one bit, 0 the lesser one; as many symbols as fit have k bits.
            int k = order[place];
            Bits row = Bits.packed().start(1, 2).number(29, 5).number(0, 5).number(15, 4);
            for (int i = 0; i < 19; i++) {
                row.number(i == place || order[i] == 0 ? 1 : 0, 3);
            }
            int codes = Math.min(1 << k, 286);
            for (int s = 0; s < 286; s++) {
                row.code(s >= 286 - codes ? "1" : "0");
            }
            row.code("0");
            if (k <= 8 && k >= 5) {
                // 256 is the code 286 - 256 from the last one.
                fine("256 of " + k + " bits", row.code((1 << k) - 30, k), NOTHING);
            } else {
                here("codes of " + k + " bits", row, CODES);
            }
        }
    }

    /** The codes of a made block's lengths: 0 has 0, 1 has 10, 16 has 110, 18 has 111. */
    private static Bits tale(int d) {
        return Bits.packed().made(1, 0, d, nineteen(0, 1, 1, 2, 16, 3, 18, 3));
    }

    private static void sixteen() {
        Due.sentence("Terms (10)", "16 the one before 3 times more, and as often again as a number of 2 bits tells");
        // Symbols from 0 on have 3 bits: one by 3, the others by 16; then zeros up to 256, which has 3 as well.
        for (int more = 0; more <= 3; more++) {
            // 0 has 00, 3 has 01, 16 has 10, 18 has 11.
            Bits row = Bits.packed().made(1, 0, 0, nineteen(0, 2, 3, 2, 16, 2, 18, 2));
            row.code("01").code("10").number(more, 2);
            int have = 4 + more;
            for (; have < 7; have++) {
                row.code("01");
            }
            // The eighth is 256.
            row.code("11").number(127, 7).code("11").number(256 - 7 - 138 - 11, 7).code("01").code("00");
            row.code("110").code("111");
            fine("16 and " + more, row, bytes(6));
        }
        // Two 16s in a row: 1 + 3 + 3, then 256.
        Bits row = Bits.packed().made(1, 0, 0, nineteen(0, 2, 3, 2, 16, 2, 18, 2));
        row.code("01").code("10").number(0, 2).code("10").number(0, 2);
        row.code("11").number(127, 7).code("11").number(256 - 7 - 138 - 11, 7).code("01").code("00");
        fine("16 behind a 16", row.code("000").code("110").code("111"), bytes(0, 6));
    }

    private static void sixteenOfZeros() {
        Due.sentence("Terms (10)", "16 the one before");
        // Behind a 0, and behind an 18, it is a 0.
        Bits row = tale(0).code("0").code("110").number(3, 2).code("111").number(127, 7).code("110").number(0, 2);
        row.code("111").number(256 - 7 - 138 - 3 - 11, 7).code("10").code("10").code("0");
        fine("16 behind zeros", row, NOTHING);
    }

    private static void seventeen() {
        Due.sentence("Terms (10)", "17 the length 0, 3 times and as often more as 3 bits tell");
        for (int more = 0; more <= 7; more++) {
            // 1 has 0, 17 has 10, 18 has 11: the symbol behind the zeros and 256 have one bit each.
            Bits row = Bits.packed().made(1, 0, 0, nineteen(1, 1, 17, 2, 18, 2)).code("10").number(more, 3).code("0");
            int left = 256 - 4 - more;
            row.code("11").number(127, 7).code("11").number(left - 138 - 11, 7).code("0").code("0");
            fine("17 and " + more, row.code("0").code("1"), bytes(3 + more));
        }
    }

    private static void eighteen() {
        Due.sentence("Terms (10)", "18 likewise 11 times and 7 bits");
        for (int more = 0; more <= 127; more++) {
            Bits row = tale(0).code("111").number(more, 7).code("10");
            for (int i = 11 + more + 1; i < 256; i++) {
                row.code("0");
            }
            fine("18 and " + more, row.code("10").code("10").code("0").code("1"), bytes(11 + more));
        }
    }

    private static void oneRow() {
        Due.sentence("Terms (10)", "h + 257 lengths of the codes for symbols and d + 1 for distances, one row");
        // 2 has 0, 16 has 10, 18 has 11: four symbols of 2 bits, the last one 257, and by 16 four distances.
        Bits row = Bits.packed().made(1, 1, 3, nineteen(2, 1, 16, 2, 18, 2)).code("0").code("0");
        row.code("11").number(127, 7).code("11").number(256 - 2 - 138 - 11, 7).code("0").code("0").code("10").number(1, 2);
        // 0, 1, 256 and 257 have 00, 01, 10, 11.
        fine("16 over the border", row.code("00").code("01").code("11").code("01").code("10"), bytes(0, 1, 0, 1, 0));
        // An 18 over the border: 256 has one bit, and behind 257 there are zeros up to the last distance.
        row = Bits.packed().made(1, 10, 9, nineteen(1, 1, 18, 1)).code("1").number(127, 7).code("1").number(107, 7);
        fine("18 over the border", row.code("0").code("1").number(20 - 11, 7).code("0"), NOTHING);
    }

    private static void lesserSymbolsFirst() {
        Due.sentence("Terms (10)", "of those of one length those of lesser symbols come first, and as numbers they go up by"
            + " one");
        Bits row = lengths(symbols(257, 0, 3, 1, 2, 254, 3, 255, 2, 256, 2), new int[] {0});
        fine("2, 2, 2, 3, 3", row.code("00").code("01").code("110").code("111").code("10"), bytes(1, 255, 0, 254));
    }

    private static void lengthZeroHasNoCode() {
        Due.sentence("Terms (10)", "A symbol with the length 0 has no code.");
        // The first code is that of 200: the 200 symbols before it, and those behind it, have none.
        fine("200 and 256", lengths(symbols(286, 200, 1, 256, 1), new int[30]).code("0").code("0").code("1"),
            bytes(200, 200));
        int[] far = new int[30];
        far[2] = 1;
        far[4] = 1;
        Bits row = lengths(symbols(258, 7, 2, 8, 2, 256, 2, 257, 2), far).code("00").code("01").code("00").code("11");
        fine("the distances 2 and 4", row.code("0").code("10"), bytes(7, 8, 7, 7, 8, 7));
    }

    private static void codesOverAGap() {
        Due.sentence("Terms (10)", "the first one of a length is twice what would follow the last one of the length"
            + " before (0 for the first length)");
        // 7 has one bit, 3, 5, 9 and 256 have three: none has two.
        Bits row = lengths(symbols(257, 7, 1, 3, 3, 5, 3, 9, 3, 256, 3), new int[] {0});
        fine("1, 3, 3, 3, 3", row.code("0").code("100").code("101").code("110").code("0").code("111"),
            bytes(7, 3, 5, 9, 7));
        // No code is shorter than four bits: the first one is 0000.
        int[] sixteen = symbols(257, 256, 4);
        Arrays.fill(sixteen, 40, 55, 4);
        fine("sixteen of 4", lengths(sixteen, new int[] {0}).code("0000").code("1110").code("1111"), bytes(40, 54));
    }

    private static void codesOfFifteen() {
        Due.sentence("Terms (10)", "0 .. 15 is a length");
        int[] lengths = symbols(257, 256, 15);
        for (int k = 1; k <= 15; k++) {
            lengths[k] = k;
        }
        Bits row = lengths(lengths, new int[] {0});
        byte[] made = new byte[15];
        for (int k = 1; k <= 15; k++) {
            row.code("1".repeat(k - 1) + "0");
            made[k - 1] = (byte) k;
        }
        fine("one of each length, two of 15", row.code("1".repeat(15)), made);
    }

    /** A match of a fixed block behind one byte. */
    private static void lengthIs(int s, int more, int e, int length) {
        Bits row = fixed().fixed(77).fixed(s).number(more, e).code(0, 5).fixed(256);
        fine("symbol " + s + " and " + more, row, same(1 + length, 77));
    }

    private static void lengthsWithoutMore() {
        Due.sentence("Terms (10)", "for 257 .. 264 the base s - 254 and e = 0");
        for (int s = 257; s <= 264; s++) {
            lengthIs(s, 0, 0, s - 254);
        }
    }

    private static void lengthsWithMore() {
        Due.sentence("Terms (10)", "from 265 to 284 e = (s - 261) / 4 and the base 3 + (4 + (s - 261) % 4) shifted left"
            + " by e");
        int[] bases = {11, 13, 15, 17, 19, 23, 27, 31, 35, 43, 51, 59, 67, 83, 99, 115, 131, 163, 195, 227};
        for (int s = 265; s <= 284; s++) {
            int e = 1 + (s - 265) / 4;
            lengthIs(s, 0, e, bases[s - 265]);
            lengthIs(s, 1, e, bases[s - 265] + 1);
            lengthIs(s, (1 << e) - 1, e, bases[s - 265] + (1 << e) - 1);
        }
    }

    private static void length258() {
        Due.sentence("Terms (10)", "285 is 258, e = 0");
        lengthIs(285, 0, 0, 258);
        // Unpacked, 284 with 31 more is the same.
        lengthIs(284, 31, 5, 258);
        lengthIs(284, 30, 5, 257);
    }

    /** A match of three bytes of a fixed block behind so many stored ones. */
    private static void distanceIs(int d, int more, int e, int distance) {
        byte[] first = even(Math.max(distance, 3), distance);
        Bits row = Bits.packed().start(0, 0).stored(first).start(1, 1).fixed(257).code(d, 5).number(more, e).fixed(256);
        byte[] made = Arrays.copyOf(first, first.length + 3);
        for (int i = first.length; i < made.length; i++) {
            made[i] = made[i - distance];
        }
        fine("distance " + d + " and " + more, row, made);
    }

    private static void distancesWithoutMore() {
        Due.sentence("Terms (10)", "the code of a DISTANCE d: for 0 .. 3 d + 1");
        for (int d = 0; d <= 3; d++) {
            distanceIs(d, 0, 0, d + 1);
        }
    }

    private static void distancesWithMore() {
        Due.sentence("Terms (10)", "otherwise e = d / 2 - 1, 1 + (2 + d % 2) shifted left by e, and a number of e bits"
            + " more");
        int[] bases = {5, 7, 9, 13, 17, 25, 33, 49, 65, 97, 129, 193, 257, 385, 513, 769, 1025, 1537, 2049, 3073,
            4097, 6145};
        for (int d = 4; d <= 25; d++) {
            int e = (d - 2) / 2;
            distanceIs(d, 0, e, bases[d - 4]);
            distanceIs(d, 1, e, bases[d - 4] + 1);
            if (d < 25) {
                distanceIs(d, (1 << e) - 1, e, bases[d - 4] + (1 << e) - 1);
            }
        }
        // So many stored bytes as have room in the input with the rest.
        distanceIs(25, 8160 - 6145, 11, 8160);
        // 26 to 29 are beyond whatever can be made; 13 bits more are read of the last ones.
        for (int d = 26; d <= 29; d++) {
            here("distance " + d, fixed().fixed(1).fixed(257).code(d, 5).number(0, (d - 2) / 2), FAR);
        }
    }

    private static void bytesJustBeingMade() {
        Due.sentence("Terms (10)", "So many bytes follow that are those so far before, each (also those that are just"
            + " being made).");
        fine("258 of one", fixed().fixed(3).fixed(285).code(0, 5).fixed(256), same(259, 3));
        fine("5 of two", fixed().fixed(3).fixed(4).fixed(259).code(1, 5).fixed(256), bytes(3, 4, 3, 4, 3, 4, 3));
        fine("3 of three", fixed().fixed(3).fixed(4).fixed(5).fixed(257).code(2, 5).fixed(256),
            bytes(3, 4, 5, 3, 4, 5));
        fine("3 of four", fixed().fixed(3).fixed(4).fixed(5).fixed(6).fixed(257).code(3, 5).fixed(256),
            bytes(3, 4, 5, 6, 3, 4, 5));
    }

    private static Bits head(int x, int y) {
        return new Bits().number(x, 8).number(y, 8);
    }

    private static void head31() {
        Due.sentence("Terms (10)", "they are 256 x + y, not divided by 31");
        // 256 * 120 + 156 is divided by 31; of the others nothing else is wrong.
        for (int y = 0; y < 256; y++) {
            if ((y & 32) == 0 && y != 156 && y != 1 && y != 94 && y != 218) {
                here("120 " + y, head(120, y), HEAD);
            }
        }
        for (int y : new int[] {1, 94, 156, 218}) {
            fine("120 " + y, head(120, y).start(1, 1).fixed(256), NOTHING);
        }
    }

    private static void headLowerBits() {
        Due.sentence("Terms (10)", "the first one's lower four bits are not 8");
        for (int low = 0; low < 16; low++) {
            int x = 112 + low;
            int y = dividedBy31(x);
            if (low == 8) {
                fine(x + " " + y, head(x, y).start(1, 1).fixed(256), NOTHING);
            } else {
                here(x + " " + y, head(x, y), HEAD);
            }
        }
    }

    /** The least y that makes it divided by 31 and has not the bit 32. */
    private static int dividedBy31(int x) {
        int y = 0;
        while ((256 * x + y) % 31 != 0 || (y & 32) != 0) {
            y++;
        }
        return y;
    }

    private static void headUpperBits() {
        Due.sentence("Terms (10)", "its others above 7");
        for (int up = 0; up < 16; up++) {
            int x = 16 * up + 8;
            int y = dividedBy31(x);
            if (up <= 7) {
                fine(x + " " + y, head(x, y).start(1, 1).fixed(256), NOTHING);
            } else {
                here(x + " " + y, head(x, y), HEAD);
            }
        }
    }

    private static void headBit32() {
        Due.sentence("Terms (10)", "or the second one has the bit 32");
        for (int y : new int[] {32, 63, 125, 187, 249}) {
            Due.same("256 * 120 + " + y + ", modulo 31", (256 * 120 + y) % 31, 0);
            here("120 " + y, head(120, y), HEAD);
        }
    }

    private static void headBehindTwoBytes() {
        Due.sentence("Terms (10)", "HEAD (1): behind the first two bytes");
        leaves("a wrong first byte alone", new Bits().number(121, 8), -10 - SHORT, 8, 0, 0, NOTHING);
        leaves("both, wrong", head(121, 156), -10 - HEAD, 16, 0, 0, NOTHING);
    }

    private static void shortHead() {
        Due.sentence("Terms (10)", "SHORT (2): bits are missing.");
        missing("no byte", new Bits(), 0, 0, NOTHING);
        missing("one byte", new Bits().number(120, 8), 0, 0, NOTHING);
    }

    private static void shortBlock() {
        Due.sentence("Terms (10)", "SHORT (2): bits are missing.");
        missing("a first bit", Bits.packed(), 0, 0, NOTHING);
        missing("a first bit behind a block", nines(0, 6).fixed(256), 1, 0, same(6, 200));
        missing("a kind's both bits", nines(0, 5).fixed(256).number(1, 1), 2, 0, same(5, 200));
        missing("a kind's second bit", nines(0, 4).fixed(256).number(3, 2), 2, 0, same(4, 200));
    }

    private static void shortStored() {
        Due.sentence("Terms (10)", "SHORT (2): bits are missing.");
        missing("n", Bits.packed().start(1, 0).pad(0), 1, 0, NOTHING);
        missing("half of n", Bits.packed().start(1, 0).pad(0).number(1, 8), 1, 0, NOTHING);
        missing("65535 - n", Bits.packed().start(1, 0).pad(0).number(1, 16), 1, 0, NOTHING);
        missing("half of 65535 - n", Bits.packed().start(1, 0).pad(0).number(1, 16).number(7, 8), 1, 0, NOTHING);
        missing("the bytes", Bits.packed().start(1, 0).pad(0).number(2, 16).number(65533, 16), 1, 0, NOTHING);
        missing("the last byte", Bits.packed().start(1, 0).pad(0).number(2, 16).number(65533, 16).number(9, 8),
            1, 0, bytes(9));
    }

    private static void shortMade() {
        Due.sentence("Terms (10)", "SHORT (2): bits are missing.");
        missing("two bits of h", Bits.packed().start(0, 1).fixed(256).start(1, 2).number(7, 3), 2, 0, NOTHING);
        missing("d", Bits.packed().start(1, 2).number(0, 5), 1, 0, NOTHING);
        missing("a bit of c", Bits.packed().start(1, 2).number(0, 10).number(7, 3), 1, 0, NOTHING);
        missing("two bits of the third of the 19", Bits.packed().start(1, 2).number(0, 10).number(15, 4).number(0, 7),
            1, 0, NOTHING);
        missing("two bits of a length's code", Bits.packed().made(1, 0, 0, nineteen(0, 4, 1, 4, 2, 4, 3, 4, 4, 4, 5, 4,
            6, 4, 7, 4, 8, 4, 9, 4, 10, 4, 11, 4, 12, 4, 13, 4, 14, 4, 15, 4)).number(0, 6), 1, 0, NOTHING);
        missing("a bit of the number of a 16", tale(0).code("0").code("110").code("0").code("0"), 1, 0, NOTHING);
        missing("bits of the number of an 18", tale(0).code("111").number(7, 3), 1, 0, NOTHING);
        missing("all of the number of an 18", tale(0).code("000").code("111"), 1, 0, NOTHING);
        missing("bits of the number of a 17", Bits.packed().made(1, 0, 0, nineteen(0, 1, 17, 1)).code("0000").code("1")
            .number(1, 1), 1, 0, NOTHING);
        Bits none = tale(0).code("111").number(127, 7).code("111").number(107, 7);
        missing("the distances' lengths", none.code("10"), 1, 0, NOTHING);
    }

    private static void shortSymbols() {
        Due.sentence("Terms (10)", "SHORT (2): bits are missing.");
        missing("a symbol's code", nines(5), 1, 0, same(5, 200));
        missing("bits of a symbol's code", fixed().number(0, 5), 1, 0, NOTHING);
        missing("a bit of a length", nines(1).fixed(281).number(0, 4), 1, 1, bytes(200));
        missing("a bit of a distance's code", nines(2).fixed(257).number(0, 4), 1, 1, same(2, 200));
        missing("a distance's code", nines(6).fixed(257), 1, 1, same(6, 200));
        missing("all of a distance's number", nines(1).fixed(257).code(8, 5), 1, 1, bytes(200));
        missing("bits of a distance's number", fixed().fixed(5).fixed(257).code(8, 5).number(0, 1), 1, 1, bytes(5));
    }

    private static void shortCheck() {
        Due.sentence("Terms (10)", "SHORT (2): bits are missing.");
        for (int n = 0; n < 4; n++) {
            Bits row = fixed().fixed(5).fixed(256).pad(0);
            missing("all but " + n + " bytes of the check", row.number(0, 8 * n), 1, 0, bytes(5));
        }
    }

    private static void kind3() {
        Due.sentence("Terms (10)", "KIND (3): it is 3.");
        here("the first block", Bits.packed().start(1, 3), KIND);
        here("not the last block", Bits.packed().start(0, 3), KIND);
        here("the second block", Bits.packed().start(0, 1).fixed(5).fixed(256).start(1, 3), KIND);
        leaves("what was made before", Bits.packed().start(0, 1).fixed(5).fixed(256).start(1, 3), -10 - KIND,
            16 + 3 + 8 + 7 + 3, 2, 0, bytes(5));
    }

    private static void lengthsThatDontFit() {
        Due.sentence("Terms (10)", "LENGTH (4): the two numbers of a stored block don't fit.");
        int[] firsts = {0, 0, 1, 1, 255, 65535, 65535, 4096};
        int[] seconds = {0, 65534, 1, 65535, 65281, 65535, 1, 4096};
        for (int i = 0; i < firsts.length; i++) {
            here(firsts[i] + " and " + seconds[i], Bits.packed().start(1, 0).pad(1).number(firsts[i], 16)
                .number(seconds[i], 16), LENGTH);
        }
        for (int bit = 0; bit < 16; bit++) {
            here("the bit " + bit + " wrong", Bits.packed().start(1, 0).pad(0).number(5, 16)
                .number(65530 ^ 1 << bit, 16), LENGTH);
        }
    }

    private static void countOfSymbols() {
        Due.sentence("Terms (10)", "COUNT (5): h above 29");
        here("h is 30", Bits.packed().start(1, 2).number(30, 5).number(0, 5), COUNT);
        here("h is 31", Bits.packed().start(1, 2).number(31, 5).number(29, 5), COUNT);
        // 33 bits and 7 of the numbers of the 19.
        missing("h is 29", Bits.packed().start(1, 2).number(29, 5).number(0, 5).number(0, 4).number(0, 7), 1, 0, NOTHING);
    }

    private static void countOfDistances() {
        Due.sentence("Terms (10)", "or d above 29");
        here("d is 30", Bits.packed().start(1, 2).number(0, 5).number(30, 5), COUNT);
        here("d is 31", Bits.packed().start(1, 2).number(29, 5).number(31, 5), COUNT);
        missing("d is 29", Bits.packed().start(1, 2).number(0, 5).number(29, 5).number(0, 4).number(0, 7), 1, 0, NOTHING);
    }

    private static void countBehindBoth() {
        Due.sentence("Terms (10)", "(behind both)");
        missing("h is 31, and d is missing", Bits.packed().start(1, 2).number(31, 5), 1, 0, NOTHING);
        missing("h is 31, and two bits of d are missing", nines(0, 3).fixed(256).start(1, 2).number(31, 5).number(7, 3),
            2, 0, same(3, 200));
        leaves("h and d are 31", Bits.packed().start(1, 2).number(31, 5).number(31, 5), -10 - COUNT, 29, 1, 0, NOTHING);
    }

    private static void repeatAtFirst() {
        Due.sentence("Terms (10)", "REPEAT (6): a 16 without a length before (behind its code)");
        here("a 16 at first", tale(0).code("110"), REPEAT);
        // Its number is not read, nor missed: the row ends with the code.
        Bits row = Bits.packed().made(1, 0, 0, nineteen(16, 6, 0, 1, 1, 2, 2, 3, 3, 4, 4, 5, 5, 6));
        row.code("111111");
        Due.same("whole bytes", row.count() % 8, 0);
        leaves("a 16 at first and at the end", row, -10 - REPEAT, row.count(), 1, 0, NOTHING);
        // What a block before told does not count; behind one length it is fine.
        Bits two = Bits.packed().made(0, 0, 0, nineteen(1, 1, 18, 1)).code("1").number(127, 7).code("1").number(107, 7)
            .code("0").code("0").code("0");
        two.made(1, 0, 0, nineteen(0, 1, 1, 2, 16, 3, 18, 3)).code("110");
        here("a 16 at first of the second block", two, REPEAT);
    }

    private static void repeatBeyondTheEnd() {
        Due.sentence("Terms (10)", "or more lengths than there are to be (behind its number)");
        // There are to be 258: 138 and 119 zeros leave one.
        Bits row = tale(0).code("111").number(127, 7).code("111").number(108, 7);
        here("a 16 where one is left", row.code("110").number(0, 2), REPEAT);
        for (int left = 1; left <= 5; left++) {
            row = tale(0).code("111").number(127, 7).code("111").number(109 - left, 7).code("110");
            int more = Math.max(left - 2, 0);
            here("a 16 of " + (3 + more) + " where " + left + " are left", row.number(more, 2), REPEAT);
        }
        row = tale(0).code("111").number(127, 7);
        here("an 18 of 121 where 120 are left", row.code("111").number(110, 7), REPEAT);
        row = tale(0).code("111").number(127, 7);
        here("an 18 of 120 where 120 are left makes no codes", row.code("111").number(109, 7), CODES);
        row = Bits.packed().made(1, 0, 0, nineteen(0, 1, 17, 2, 18, 2)).code("11").number(127, 7).code("11")
            .number(107, 7);
        here("a 17 of 3 where 2 are left", row.code("10").number(0, 3), REPEAT);
        // With h and d of 29 there are to be 316.
        Bits most = Bits.packed().made(1, 29, 29, nineteen(0, 1, 1, 2, 16, 3, 18, 3)).code("111").number(127, 7)
            .code("111").number(127, 7);
        here("an 18 of 41 where 40 are left", most.code("111").number(30, 7), REPEAT);
    }

    private static void codesOfNineteenAboveOne() {
        Due.sentence("Terms (10)", "looked at behind the last one of the 19, [..] the sum of 2 ^ -length over all codes"
            + " is above 1");
        here("by the least", Bits.packed().made(1, 0, 0, nineteen(0, 1, 1, 1, 2, 7)), CODES);
        here("three of 1", Bits.packed().made(1, 0, 0, nineteen(0, 1, 1, 1, 2, 1)), CODES);
        int[] all = new int[19];
        Arrays.fill(all, 1);
        fault("nineteen of 1", Bits.packed().made(1, 0, 0, all), CODES, TALE);
    }

    private static void codesOfNineteenBelowOne() {
        Due.sentence("Terms (10)", "looked at behind the last one of the 19, [..] or it is below 1");
        here("by the least", Bits.packed().made(1, 0, 0, nineteen(0, 1, 1, 2, 2, 3, 3, 4, 4, 5, 5, 6, 6, 7)), CODES);
        here("one of 2", Bits.packed().made(1, 0, 0, nineteen(0, 2)), CODES);
        here("one of 7", Bits.packed().made(1, 0, 0, nineteen(15, 7)), CODES);
        here("two of 2", Bits.packed().made(1, 0, 0, nineteen(0, 2, 1, 2)), CODES);
        here("none at all", Bits.packed().made(1, 0, 0, nineteen()), CODES);
        here("none at all, c is 0", Bits.packed().start(1, 2).number(0, 14).number(0, 12), CODES);
    }

    private static void codesOfSymbolsAboveOne() {
        Due.sentence("Terms (10)", "of the symbols [..] the sum of 2 ^ -length over all codes is above 1");
        int[] none = {0};
        here("by the least", lengths(symbols(257, 0, 1, 1, 1, 256, 15), none), CODES);
        here("three of 1", lengths(symbols(257, 0, 1, 1, 1, 256, 1), none), CODES);
        int[] all = new int[286];
        Arrays.fill(all, 1);
        here("286 of 1", lengths(all, none), CODES);
        here("a sum of 2", lengths(symbols(257, 256, 1, 0, 1, 1, 1, 2, 1), none), CODES);
    }

    private static void codesOfSymbolsBelowOne() {
        Due.sentence("Terms (10)", "of the symbols [..] or it is below 1");
        int[] none = {0};
        int[] least = symbols(257, 256, 15);
        for (int k = 1; k <= 14; k++) {
            least[k] = k;
        }
        here("by the least", lengths(least, none), CODES);
        here("256 alone, of 2", lengths(symbols(257, 256, 2), none), CODES);
        here("256 alone, of 15", lengths(symbols(257, 256, 15), none), CODES);
        here("two of 2", lengths(symbols(257, 0, 2, 256, 2), none), CODES);
        here("none at all", lengths(symbols(257), none), CODES);
    }

    private static void codesOfDistancesAboveOne() {
        Due.sentence("Terms (10)", "of the symbols and distances [..] the sum of 2 ^ -length over all codes is above 1");
        int[] two = symbols(257, 0, 1, 256, 1);
        here("by the least", lengths(two, new int[] {1, 1, 15}), CODES);
        here("three of 1", lengths(two, new int[] {1, 1, 1}), CODES);
        int[] all = new int[30];
        Arrays.fill(all, 1);
        here("thirty of 1", lengths(two, all), CODES);
    }

    private static void codesOfDistancesBelowOne() {
        Due.sentence("Terms (10)", "of the symbols and distances [..] or it is below 1");
        int[] two = symbols(257, 0, 1, 256, 1);
        int[] least = new int[30];
        for (int k = 1; k <= 14; k++) {
            least[k] = k;
        }
        least[29] = 15;
        here("by the least", lengths(two, least), CODES);
        here("one of 2", lengths(two, new int[] {2}), CODES);
        here("one of 15", lengths(two, new int[] {0, 15}), CODES);
        here("two of 2", lengths(two, new int[] {2, 2}), CODES);
    }

    private static void oneCodeAlone() {
        Due.sentence("Terms (10)", "but for the one code of length 1 alone");
        fine("256 alone", lengths(symbols(257, 256, 1), new int[] {0}).code("0"), NOTHING);
        // 0 has 0, 256 has 10, 257 has 11; one distance, whichever it is.
        int[] three = symbols(258, 0, 1, 256, 2, 257, 2);
        fine("one distance", lengths(three, new int[] {1}).code("0").code("11").code("0").code("10"), new byte[4]);
        fine("one distance that is not the first", lengths(three, new int[] {0, 1}).code("0").code("0").code("11")
            .code("0").code("10"), new byte[5]);
        // Among the 19: with 1 alone all of the 258 lengths are 1, which is too many.
        Bits row = Bits.packed().made(1, 0, 0, nineteen(1, 1)).code("0".repeat(258));
        fault("one of the 19", row, CODES, TALE + 258);
    }

    private static void noDistances() {
        Due.sentence("Terms (10)", "and, for distances, none at all");
        for (int n = 1; n <= 30; n++) {
            fine(n + " distances without codes", lengths(symbols(257, 0, 1, 256, 1), new int[n]).code("0").code("1"),
                bytes(0));
        }
    }

    private static void no256() {
        Due.sentence("Terms (10)", "or 256 has no code");
        int[] none = {0};
        here("two others", lengths(symbols(257, 0, 1, 1, 1), none), CODES);
        here("one other alone", lengths(symbols(257, 255, 1), none), CODES);
        here("257 and 255", lengths(symbols(258, 255, 1, 257, 1), none), CODES);
        here("257 and 255, and distances", lengths(symbols(258, 255, 1, 257, 1), new int[] {1, 1}), CODES);
    }

    private static void codesBehindTheLast() {
        Due.sentence("Terms (10)", "looked at behind the last one of the 19, of the symbols and distances (the symbols'"
            + " first)");
        // Symbols and distances that are wrong both, or the symbols alone, are told behind the last distance.
        here("both wrong", lengths(symbols(257, 0, 1), new int[] {1, 1, 1}), CODES);
        here("the symbols wrong", lengths(symbols(257, 0, 1, 1, 1, 256, 1), new int[] {1, 1}), CODES);
        // Lengths that are missing, or more than there are to be, come before.
        int[] codes = nineteen(0, 1, 1, 2, 16, 3, 18, 3);
        Bits row = Bits.packed().made(1, 0, 0, codes).code("111").number(127, 7).code("111").number(108, 7).code("110");
        here("the symbols wrong, then a repeat", row.number(0, 2), REPEAT);
        row = Bits.packed().made(1, 0, 29, codes).code("111").number(127, 7).code("111").number(108, 7);
        while (row.count() % 8 != 0) {
            row.code("0");
        }
        missing("the symbols wrong, then nothing", row, 1, 0, NOTHING);
        // The 19 are looked at before any length is read.
        row = Bits.packed().start(1, 2).number(0, 14).number(1, 3).number(1, 3).number(1, 3).number(0, 3);
        here("the 19 wrong", row, CODES);
    }

    private static void noBeginningOfACode() {
        Due.sentence("Terms (10)", "CODE (8): the bits read are no beginning of a code");
        here("a symbol", lengths(symbols(257, 256, 1), new int[] {0}).code("1"), CODE);
        int[] three = symbols(258, 0, 1, 256, 2, 257, 2);
        here("a distance", lengths(three, new int[] {1}).code("0").code("11").code("1"), CODE);
        here("a length of the codes", Bits.packed().made(1, 0, 0, nineteen(1, 1)).code("1"), CODE);
        here("a length of the codes, later", Bits.packed().made(1, 0, 0, nineteen(1, 1)).code("0001"), CODE);
    }

    private static void noCodeAtAll() {
        Due.sentence("Terms (10)", "(or there is none at all: then no bit is read)");
        int[] three = symbols(258, 0, 1, 256, 2, 257, 2);
        Bits row = lengths(three, new int[] {0}).code("0").code("11");
        leaves("a match without distances", row, -10 - CODE, row.count(), 1, 1, bytes(0));
        here("a match without distances, bits behind it", row, CODE);
        // The number that goes with the length is read before; 265 has one bit more.
        int[] four = symbols(266, 0, 1, 256, 2, 265, 2);
        row = lengths(four, new int[30]).code("0").code("11").number(1, 1);
        here("a match of 12 without distances", row, CODE);
        // Even where no bit is left.
        row = lengths(three, new int[] {0});
        while (row.count() % 8 != 6) {
            row.code("0");
        }
        row.code("11");
        fault("a match without distances at the row's end", row, CODE, row.count());
    }

    private static void noCodeAtAllBehindOthers() {
        Due.sentence("Terms (10, 11)", "(or there is none at all: then no bit is read), behind a block that has some");
        int[] three = symbols(258, 0, 1, 256, 2, 257, 2);
        int[][] before = {{1}, {1, 1}, {2, 2, 2, 2}, {1, 2, 3, 4, 5, 6, 7, 8, 9, 10, 11, 12, 13, 14, 15, 15}};
        for (int[] distances : before) {
            String name = distances.length + " distances, then none";
            Bits row = lengths(Bits.packed(), 0, three, distances).code("0").code("10");
            lengths(row, 1, three, new int[] {0}).code("0").code("11");
            leaves(name, row, -10 - CODE, row.count(), 2, 1, bytes(0, 0));
            here(name, row, CODE);
            // The block that has some may also be one of an unpack() before.
            BlockPacker x = Rows.packerOf(lengths(three, distances).code("0").code("10").check(bytes(0)).bytes());
            Due.same(name + ", the first unpack()", x.unpack(), 1);
            row = lengths(three, new int[] {0}).code("0").code("11");
            int read = row.count();
            Rows.give(x, row.number(-1, 32).bytes());
            Due.same(name + ", the second unpack()", x.unpack(), -10 - CODE);
            Due.same(name + ", read() of the second", x.read(), read);
        }
    }

    private static void shortBeforeNoCode() {
        Due.sentence("Terms (10)", "stops at the first FAULT: [..] SHORT (2): bits are missing. [..] (or there is none at"
            + " all: then no bit is read)");
        // A length's number comes before the distance: where both are missing, the bits are first.
        int[] one = symbols(266, 0, 1, 256, 2, 265, 2);
        missing("the bit of 265, and no distances", lengths(one, new int[1]).code("11"), 1, 1, NOTHING);
        int[] five = symbols(282, 0, 1, 256, 2, 281, 2);
        missing("the bits of 281, and no distances", lengths(five, new int[1]).code("11"), 1, 1, NOTHING);
        for (int there = 1; there <= 4; there++) {
            Bits row = lengths(five, new int[1]).code("0".repeat(8 - there)).code("11").number(-1, there);
            missing("bits of 281 behind " + there + ", and no distances", row, 1, 1, new byte[8 - there]);
        }
    }

    private static void shortBeforeRepeat() {
        Due.sentence("Terms (10)", "stops at the first FAULT: [..] SHORT (2): bits are missing. [..] more lengths than"
            + " there are to be (behind its number)");
        for (int left = 1; left <= 11; left++) {
            for (int there = 0; there <= 6; there++) {
                int zeros = 7 - there;
                Bits row = tale(0).code("111").number(127, 7).code("111").number(258 - 138 - 11 - zeros - left, 7);
                row.code("0".repeat(zeros)).code("111").number(0, there);
                missing("an 18 where " + left + " are left, " + there + " bits of its number", row, 1, 0, NOTHING);
            }
        }
    }

    private static void symbolAbove285() {
        Due.sentence("Terms (10)", "or a symbol above 285");
        for (int s = 286; s <= 287; s++) {
            Bits row = fixed().fixed(7).fixed(s);
            leaves("symbol " + s, row, -10 - CODE, 16 + 3 + 8 + 8, 1, 0, bytes(7));
            here("symbol " + s + ", bits behind it", row, CODE);
        }
    }

    private static void distanceAbove29() {
        Due.sentence("Terms (10)", "or a distance above 29");
        for (int d = 30; d <= 31; d++) {
            Bits row = fixed().fixed(7).fixed(257).code(d, 5);
            leaves("distance " + d, row, -10 - CODE, 16 + 3 + 8 + 7 + 5, 1, 1, bytes(7));
            here("distance " + d + ", bits behind it", row, CODE);
        }
        here("distance 29", fixed().fixed(7).fixed(257).code(29, 5).number(0, 13), FAR);
    }

    private static void farBeyondTheFirst() {
        Due.sentence("Terms (10)", "FAR (9): a distance is beyond the first byte that was made");
        leaves("1 of none", fixed().fixed(257).code(0, 5), -10 - FAR, 16 + 3 + 7 + 5, 1, 1, NOTHING);
        for (int n = 1; n <= 40; n++) {
            Bits row = fixed();
            for (int i = 0; i < n; i++) {
                row.fixed(i);
            }
            // The distance n is the first byte; n + 1 is beyond it.
            int d = 0;
            while (d < 29 && Reference.farBase(d + 1) <= n + 1) {
                d++;
            }
            row.fixed(257).code(d, 5).number(n + 1 - Reference.farBase(d), Reference.farExtra(d));
            here(n + 1 + " of " + n, row, FAR);
        }
        fine("3 of three", fixed().fixed(1).fixed(2).fixed(3).fixed(257).code(2, 5).fixed(256), bytes(1, 2, 3, 1, 2, 3));
        // Bytes of a block before count as well.
        fine("1 of a block before", Bits.packed().start(0, 1).fixed(1).fixed(256).start(1, 1).fixed(257).code(0, 5)
            .fixed(256), same(4, 1));
        // What an unpacking before made does not.
        BlockPacker x = Rows.packerOf(fixed().fixed(1).fixed(2).fixed(256).check(bytes(1, 2)).bytes());
        Due.same("an unpacking before", x.unpack(), 2);
        Rows.give(x, fixed().fixed(257).code(0, 5).bytes());
        Due.same("1 of none behind an unpacking", x.unpack(), -10 - FAR);
    }

    private static void farBeyondTheWindow() {
        Due.sentence("Terms (10)", "or above 256 shifted left by the upper four bits of the first byte of all");
        int[] most = {256, 512, 1024, 2048, 4096};
        for (int up = 0; up < most.length; up++) {
            int x = 16 * up + 8;
            byte[] first = even(most[up] + 1, up);
            // The last distance of its code, and the first one of the next.
            int d = 15 + 2 * up;
            int e = 6 + up;
            Bits row = head(x, dividedBy31(x)).start(0, 0).stored(first).start(1, 1).fixed(257).code(d, 5)
                .number((1 << e) - 1, e).fixed(256);
            byte[] made = Arrays.copyOf(first, first.length + 3);
            System.arraycopy(first, 1, made, first.length, 3);
            fine(most[up] + " of " + most[up], row, made);
            row = head(x, dividedBy31(x)).start(0, 0).stored(first).start(1, 1).fixed(257).code(d + 1, 5)
                .number(0, e + 1);
            here(most[up] + 1 + " of " + most[up], row, FAR);
        }
        // From 8192 on the first byte that was made is nearer than that.
        for (int up = 5; up <= 7; up++) {
            int x = 16 * up + 8;
            byte[] first = even(8100, up);
            Bits row = head(x, dividedBy31(x)).start(0, 0).stored(first).start(1, 1).fixed(257).code(25, 5)
                .number(8100 - 6145, 11).fixed(256);
            byte[] made = Arrays.copyOf(first, 8103);
            System.arraycopy(first, 0, made, 8100, 3);
            fine("8100 of " + (256 << up), row, made);
        }
    }

    /** A row of a fixed block that has made 8192 bytes 7 and is not at its end: 1 + 31 * 258 + 193. */
    private static Bits justFull() {
        Bits row = Bits.packed().start(0, 1).fixed(7);
        for (int i = 0; i < 31; i++) {
            row.fixed(285).code(0, 5);
        }
        return row.fixed(282).number(30, 5).code(0, 5);
    }

    private static void farBeforeFull() {
        Due.sentence("Terms (10)", "stops at the first FAULT");
        // The distance 8193 is known to be beyond the first byte before a byte more is made.
        here("a distance too far, and no room", justFull().fixed(257).code(26, 5).number(0, 12), FAR);
        Bits row = justFull().fixed(257).code(0, 5);
        leaves("a distance that is fine, and no room", row, -10 - FULL, row.count(), 1, 33, same(8192, 7));
    }

    private static void fullByByte() {
        Due.sentence("Terms (10)", "FULL (10): a byte more than 8192.");
        fine("8192", justFull().fixed(256).start(1, 1).fixed(256), same(8192, 7));
        Bits row = justFull().fixed(0);
        leaves("a symbol 0 more", row, -10 - FULL, row.count(), 1, 32, same(8192, 7));
        row = justFull().fixed(256).start(1, 1).fixed(255);
        leaves("a symbol 255 more, of the next block", row, -10 - FULL, row.count(), 2, 32, same(8192, 7));
    }

    private static void fullByMatch() {
        Due.sentence("Terms (10)", "FULL (10): a byte more than 8192.");
        // 8190 stored and made bytes leave room for two of the three.
        for (int room = 0; room <= 3; room++) {
            byte[] first = even(8100, room);
            Bits row = Bits.packed().start(0, 0).stored(first).start(1, 1);
            byte[] made = Arrays.copyOf(first, 8192);
            for (int i = 8100; i < 8192; i++) {
                made[i] = made[8099];
            }
            row.fixed(277).number(0, 4).code(0, 5);
            for (int i = 8167; i < 8192 - room; i++) {
                row.fixed(made[8099] & 255);
            }
            row.fixed(257).code(0, 5);
            if (room == 3) {
                fine("a match of 3 with room for 3", row.fixed(256), made);
            } else {
                leaves("a match of 3 with room for " + room, row, -10 - FULL, row.count(), 2, 2, made);
            }
        }
    }

    private static void fullByStored() {
        Due.sentence("Terms (10)", "FULL (10): a byte more than 8192.");
        fine("none stored more", justFull().fixed(256).start(1, 0).stored(NOTHING), same(8192, 7));
        Bits row = justFull().fixed(256).start(1, 0).pad(0).number(2, 16).number(65533, 16);
        missing("a stored byte more that is missing", row, 2, 32, same(8192, 7));
        row = justFull().fixed(256).start(1, 0).pad(0).number(2, 16).number(65533, 16).number(7, 8);
        leaves("a stored byte more", row, -10 - FULL, row.count(), 2, 32, same(8192, 7));
        here("a stored byte more, bits behind it", row, FULL);
    }

    private static void wrongCheck() {
        Due.sentence("Terms (10)", "CHECK (11): behind its four bytes: it is another one.");
        for (int bit = 0; bit < 32; bit++) {
            byte[] row = fixed().fixed(97).fixed(256).check(bytes(97)).bytes();
            row[row.length - 1 - bit / 8] ^= (byte) (1 << bit % 8);
            due("the bit " + bit + " wrong", row, -10 - CHECK, 8 * row.length);
        }
        Bits none = fixed().fixed(256).pad(0).number(0, 32);
        leaves("0 for no bytes", none, -10 - CHECK, none.count(), 1, 0, NOTHING);
        // Behind all four: with the first one wrong and the others missing, bits are missing.
        missing("one wrong byte", fixed().fixed(97).fixed(256).pad(0).number(255, 8), 1, 0, bytes(97));
        missing("three wrong bytes", fixed().fixed(97).fixed(256).pad(0).number(-1, 24), 1, 0, bytes(97));
        here("four wrong bytes", fixed().fixed(97).fixed(256).pad(0).number(-1, 32), CHECK);
    }

    private static void rest() {
        Due.sentence("Terms (10)", "REST (12): there are bytes behind it.");
        Bits row = fixed().fixed(97).fixed(256).check(bytes(97));
        int read = row.count();
        leaves("none behind it", row, 1, read, 1, 0, bytes(97));
        leaves("a byte 0 behind it", row.number(0, 8), -10 - REST, read, 1, 0, bytes(97));
        leaves("more behind it", row.number(-1, 16), -10 - REST, read, 1, 0, bytes(97));
        // As many as the input has room for.
        byte[] full = Arrays.copyOf(row.bytes(), 8192);
        due("a full input", full, -10 - REST, read);
    }

    private static void firstFaultOnly() {
        Due.sentence("Terms (10)", "UNPACKING reads bit by bit, and stops at the first FAULT");
        // A wrong head and a wrong kind; a wrong kind and no check; a wrong check and bytes behind it.
        leaves("head before kind", head(120, 157).start(1, 3), -10 - HEAD, 16, 0, 0, NOTHING);
        leaves("kind before check", Bits.packed().start(1, 3), -10 - KIND, 19, 1, 0, NOTHING);
        Bits row = fixed().fixed(256).pad(0).number(0, 32).number(0, 8);
        leaves("check before rest", row, -10 - CHECK, row.count() - 8, 1, 0, NOTHING);
        leaves("count before codes", Bits.packed().made(1, 30, 0, nineteen()), -10 - COUNT, 29, 1, 0, NOTHING);
        row = lengths(symbols(257, 0, 1, 1, 1), new int[] {0}).code("0").code("1");
        leaves("codes before symbols", row, -10 - CODES, row.count() - 2, 1, 0, NOTHING);
    }

    private static void outputUpToAFault() {
        Due.sentence("10 unpack", "the output becomes what was made (also up to a fault)");
        Bits row = fixed().fixed(1).fixed(2).fixed(258).code(1, 5).fixed(3).fixed(286);
        BlockPacker x = Rows.packerOf(row.bytes());
        Due.same("unpack()", x.unpack(), -10 - CODE);
        Due.same("size(1)", x.size(1), 7);
        Due.same("the output", Rows.content(x, 1), bytes(1, 2, 1, 2, 1, 2, 3));
        Due.same("the input", Rows.content(x, 0), row.bytes());
        Due.same("take()", x.take(), 7);
        // What stood in the output before is gone, though the fault comes at once.
        Due.same("unpack() of bytes 1 2 ..", x.unpack(), -10 - HEAD);
        Due.same("size(1) then", x.size(1), 0);
        Due.same("at(1, 0) then", x.at(1, 0), BlockPacker.NONE);
    }

    private static void outputOfNothing() {
        Due.sentence("10 unpack", "Unpacks the input");
        BlockPacker x = Rows.packerOf(bytes(1, 2, 3));
        x.pack(0, false);
        x.cut(0);
        Due.same("unpack() of an empty input", x.unpack(), -10 - SHORT);
        Due.same("size(1)", x.size(1), 0);
        Due.same("read()", x.read(), 0);
        Rows.give(x, fixed().fixed(256).check(NOTHING).bytes());
        Due.same("unpack() of no bytes, packed", x.unpack(), 0);
        Due.same("size(1) of no bytes, packed", x.size(1), 0);
    }

    private static void answers() {
        Due.sentence("10 unpack", "how many bytes that are, or -10 less the fault");
        Bits[] rows = {
            fixed().fixed(256).check(NOTHING),
            head(0, 0),
            Bits.packed(),
            Bits.packed().start(1, 3),
            Bits.packed().start(1, 0).pad(0).number(0, 32),
            Bits.packed().start(1, 2).number(31, 5).number(31, 5),
            tale(0).code("110"),
            Bits.packed().made(1, 0, 0, nineteen()),
            fixed().fixed(286),
            fixed().fixed(257).code(0, 5),
            justFull().fixed(7),
            fixed().fixed(256).pad(0).number(0, 32),
            fixed().fixed(256).check(NOTHING).number(0, 8),
        };
        for (int fault = 0; fault < rows.length; fault++) {
            BlockPacker x = Rows.packerOf(rows[fault].bytes());
            Due.same("unpack() with the fault " + fault, x.unpack(), fault == 0 ? 0 : -10 - fault);
        }
    }

    private static void readAtFirst() {
        Due.sentence("11 read", "(0 at first)");
        BlockPacker x = new BlockPacker();
        Due.same("read() of a new object", x.read(), 0);
        x.fill(2, 1, 100);
        x.pack(8, true);
        x.take();
        Due.same("read() before any unpack()", x.read(), 0);
    }

    private static void readUpToTheEnd() {
        Due.sentence("11 read", "How many bits the latest unpack() read [..] up to its end or fault");
        BlockPacker x = new BlockPacker();
        x.fill(1, 5, 8176);
        Due.same("pack(0, false)", x.pack(0, false), 8192);
        x.take();
        Due.same("unpack()", x.unpack(), 8176);
        Due.same("read() of a full input", x.read(), 65536);
        x.pack(0, false);
        x.cut(0);
        Due.same("read() behind other calls", x.read(), 65536);
        Rows.give(x, Bits.packed().start(1, 3).bytes());
        x.unpack();
        Due.same("read() of the latest", x.read(), 19);
        // What is read twice is not more.
        x.unpack();
        Due.same("read() of the same once more", x.read(), 19);
    }

    private static void readWithoutTheMissing() {
        Due.sentence("11 read", "those that were missing not among them");
        BlockPacker x = new BlockPacker();
        x.fill(2, 9, 400);
        int n = x.pack(16, true);
        x.take();
        for (int left = n - 1; left >= 0; left--) {
            x.cut(left);
            Due.same("unpack() of " + left + " bytes", x.unpack(), -10 - SHORT);
            Due.same("read() of " + left + " bytes", x.read(), 8 * left);
        }
    }

    private static void toldAtFirst() {
        Due.sentence("12 told", "Of the latest unpack() (likewise)");
        BlockPacker x = new BlockPacker();
        Due.same("told(6) of a new object", x.told(6), 0);
        Due.same("told(7) of a new object", x.told(7), 0);
        x.fill(0, 1, 300);
        x.pack(8, false);
        Due.same("told(6) before any unpack()", x.told(6), 0);
        Due.same("told(7) before any unpack()", x.told(7), 0);
    }

    private static void toldBlocks() {
        Due.sentence("12 told", "6 its blocks whose first bit was read");
        leaves("no head", new Bits(), -12, 0, 0, 0, NOTHING);
        leaves("a wrong head", head(120, 157).number(0, 8), -11, 16, 0, 0, NOTHING);
        leaves("no first bit", Bits.packed(), -12, 16, 0, 0, NOTHING);
        leaves("a wrong kind", Bits.packed().start(1, 3), -13, 19, 1, 0, NOTHING);
        leaves("a first bit alone", nines(0, 5).fixed(256).number(0, 1), -12, 72, 2, 0, same(5, 200));
        Bits many = Bits.packed();
        for (int i = 0; i < 1637; i++) {
            many.start(0, 0).stored(NOTHING);
        }
        leaves("as many stored blocks as have room", many, -12, 8 * (2 + 5 * 1637), 1637, 0, NOTHING);
        Bits more = Bits.packed();
        for (int i = 0; i < 6552; i++) {
            more.start(0, 1).fixed(256);
        }
        leaves("as many fixed blocks as have room", more, -12, 65536, 6552, 0, NOTHING);
    }

    private static void toldMatches() {
        Due.sentence("12 told", "7 its symbols from 257 to 285 whose codes were read");
        for (int s = 257; s <= 285; s++) {
            Bits row = fixed().fixed(5).fixed(s).number(0, Reference.extra(s)).code(31, 5);
            leaves("symbol " + s, row, -10 - CODE, row.count(), 1, 1, bytes(5));
        }
        for (int s : new int[] {286, 287}) {
            Bits row = fixed().fixed(5).fixed(s);
            leaves("symbol " + s, row, -10 - CODE, row.count(), 1, 0, bytes(5));
        }
        leaves("a byte and the end", fixed().fixed(255).fixed(256).check(bytes(255)), 1, 8 * 9, 1, 0, bytes(255));
        leaves("a code that is half there", fixed().number(0, 5), -12, 24, 1, 0, NOTHING);
        leaves("a code whose distance is missing", nines(2).fixed(257).number(0, 4), -12, 48, 1, 1, same(2, 200));
        leaves("a code whose distance is too far", fixed().fixed(257).code(0, 5), -19, 31, 1, 1, NOTHING);
        Bits full = justFull().fixed(285).code(0, 5);
        leaves("a code for which there is no room", full, -20, full.count(), 1, 33, same(8192, 7));
    }

    private static void toldOfTheLatest() {
        Due.sentence("12 told", "Of the latest unpack()");
        BlockPacker x = Rows.packerOf(Bits.packed().start(0, 1).fixed(5).fixed(257).code(0, 5).fixed(256).start(1, 1)
            .fixed(257).code(0, 5).fixed(256).check(same(7, 5)).bytes());
        Due.same("unpack()", x.unpack(), 7);
        Due.same("told(6)", x.told(6), 2);
        Due.same("told(7)", x.told(7), 2);
        Due.same("unpack() again", x.unpack(), 7);
        Due.same("told(6) again", x.told(6), 2);
        Due.same("told(7) again", x.told(7), 2);
        x.cut(0);
        x.fill(0, 0, 100);
        x.pack(8, true);
        Due.same("told(6) behind a pack()", x.told(6), 2);
        Due.same("told(7) behind a pack()", x.told(7), 2);
        x.cut(1);
        x.unpack();
        Due.same("told(6) of the latest", x.told(6), 0);
        Due.same("told(7) of the latest", x.told(7), 0);
    }

    private static void toldBad() {
        Due.sentence("12 told", "BAD when k is none of these.");
        BlockPacker x = new BlockPacker();
        for (int k : new int[] {Integer.MIN_VALUE, -1, 8, 9, 256, Integer.MAX_VALUE}) {
            Due.same("told(" + k + ")", x.told(k), BlockPacker.BAD);
        }
        for (int k = 0; k <= 7; k++) {
            Due.same("told(" + k + ")", x.told(k), 0);
        }
    }
}
