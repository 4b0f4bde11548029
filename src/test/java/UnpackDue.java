import java.util.Arrays;

/** Rows to be unpacked, and what is due for them: for the tests that extend it. */
abstract class UnpackDue {
    static final int HEAD = 1, SHORT = 2, KIND = 3, LENGTH = 4, COUNT = 5, REPEAT = 6, CODES = 7;
    static final int CODE = 8, FAR = 9, FULL = 10, CHECK = 11, REST = 12;
    static final byte[] NOTHING = new byte[0];

    /** The answer, the bits read and what was made are as told here, and all is as the reference has it. */
    static void due(String name, Bits row, int answer, int read) {
        due(name, row.bytes(), answer, read);
    }

    static void due(String name, byte[] row, int answer, int read) {
        BlockPacker x = Rows.packerOf(row);
        Due.same(name + ": unpack()", x.unpack(), answer);
        Due.same(name + ": read()", x.read(), read);
        asReference(name, row);
    }

    static void fault(String name, Bits row, int fault, int read) {
        due(name, row, -10 - fault, read);
    }

    /** All that unpack() leaves behind is as told here: blocks and matches for told(6) and told(7). */
    static void leaves(String name, Bits row, int answer, int read, int blocks, int matches, byte[] made) {
        BlockPacker x = Rows.packerOf(row.bytes());
        Due.same(name + ": unpack()", x.unpack(), answer);
        Due.same(name + ": read()", x.read(), read);
        Due.same(name + ": told(6)", x.told(6), blocks);
        Due.same(name + ": told(7)", x.told(7), matches);
        Due.same(name + ": what was made", Rows.content(x, 1), made);
        Due.same(name + ": the input", Rows.content(x, 0), row.bytes());
    }

    static int asReference(String name, byte[] row) {
        BlockPacker x = Rows.packerOf(row);
        Reference.Unpacked want = Reference.unpack(row);
        Due.same(name + ": unpack()", x.unpack(), want.answer());
        Due.same(name + ": read()", x.read(), want.read);
        Due.same(name + ": told(6)", x.told(6), want.blocks);
        Due.same(name + ": told(7)", x.told(7), want.matches);
        Due.same(name + ": made", Rows.content(x, 1), want.bytes());
        Due.same(name + ": the input", Rows.content(x, 0), row);
        return want.fault;
    }

    /** The lengths of the 19, 0 but for those that are named, each before its length. */
    static int[] nineteen(int... pairs) {
        int[] lengths = new int[19];
        for (int i = 0; i < pairs.length; i += 2) {
            lengths[pairs[i]] = pairs[i + 1];
        }
        return lengths;
    }

    /** A row of one made block of these lengths, up to its symbols. */
    static Bits lengths(int[] symbols, int[] distances) {
        return lengths(Bits.packed(), 1, symbols, distances);
    }

    /** Behind the row a made block of these lengths (as few as 4 bits tell each of 0 .. 15) up to its symbols. */
    static Bits lengths(Bits row, int first, int[] symbols, int[] distances) {
        int[] codes = new int[19];
        Arrays.fill(codes, 0, 16, 4);
        row.made(first, symbols.length - 257, distances.length - 1, codes);
        for (int length : symbols) {
            row.code(length, 4);
        }
        for (int length : distances) {
            row.code(length, 4);
        }
        return row;
    }

    /** So many lengths, 0 but for the symbols that are named, each before its length. */
    static int[] symbols(int n, int... pairs) {
        int[] lengths = new int[n];
        for (int i = 0; i < pairs.length; i += 2) {
            lengths[pairs[i]] = pairs[i + 1];
        }
        return lengths;
    }
}
