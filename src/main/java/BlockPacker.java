import java.util.Arrays;

/**
 * Packs and unpacks blocks of bytes: repetitions are told by lengths and distances, what is left by
 * codes of as few bits as there can be, and whatever bytes come to be unpacked, the first thing that
 * is wrong with them is told, and where.
 */
public final class BlockPacker {
    public static final int NONE = -1, BAD = -2, FULL = -3;

    private static final int INPUT_ROOM = 8192, OUTPUT_ROOM = 9000, INPUT_BITS = 8 * INPUT_ROOM;
    private static final int BLOCK_ROOM = 4096, MOST_CHAIN = 128;
    private static final int LEAST_MATCH = 3, LONGEST_MATCH = 258;
    private static final int HEAD_FIRST = 120, HEAD_SECOND = 156, CHECK_MODULUS = 65521;

    private static final int STORED = 0, FIXED = 1, MADE = 2;
    private static final int END = 256, LAST_LENGTH = 285;
    private static final int SYMBOLS = 286, DISTANCES = 30, FIXED_SYMBOLS = 288, FIXED_DISTANCES = 32;
    private static final int LENGTH_SYMBOLS = 19, AGAIN = 16, FEW_ZEROS = 17, MANY_ZEROS = 18;
    private static final int LONGEST_CODE = 15, LONGEST_LENGTH_CODE = 7;
    private static final int[] LENGTH_ORDER = {16, 17, 18, 0, 8, 7, 9, 6, 10, 5, 11, 4, 12, 3, 13, 2, 14, 1, 15};

    private static final int FINE = 0, HEAD_FAULT = 1, SHORT_FAULT = 2, KIND_FAULT = 3, LENGTH_FAULT = 4;
    private static final int COUNT_FAULT = 5, REPEAT_FAULT = 6, CODES_FAULT = 7, CODE_FAULT = 8;
    private static final int FAR_FAULT = 9, FULL_FAULT = 10, CHECK_FAULT = 11, REST_FAULT = 12;

    private final Row input = new Row();
    private final Row output = new Row();
    private final Packer packer = new Packer();
    private final Unpacker unpacker = new Unpacker();

    public BlockPacker() {
    }

    public int feed(long bytes, int n) {
        if (n < 1 || n > 8) {
            return BAD;
        }
        if (n > INPUT_ROOM - input.count) {
            return FULL;
        }
        for (int i = 0; i < n; i++) {
            input.add((int) (bytes >>> 8 * i), INPUT_ROOM);
        }
        return input.count;
    }

    public int fill(int kind, int seed, int n) {
        if (kind < 0 || kind > 3 || n < 1 || n > INPUT_ROOM) {
            return BAD;
        }
        if (kind == 3 && !input.has(seed)) {
            return BAD;
        }
        if (n > INPUT_ROOM - input.count) {
            return FULL;
        }
        int x = seed;
        for (int i = 0; i < n; i++) {
            x = 1103515245 * x + 12345;
            input.add(filling(kind, seed, x, i), INPUT_ROOM);
        }
        return input.count;
    }

    private int filling(int kind, int seed, int x, int i) {
        switch (kind) {
            case 0:
                return seed;
            case 1:
                return x >>> 16;
            case 2:
                return 97 + (x >>> 16 & 3);
            default:
                return input.byteAt(seed + i);
        }
    }

    public int set(int i, int b) {
        int was = input.byteAt(i);
        if (input.has(i)) {
            input.bytes[i] = (byte) b;
        }
        return was;
    }

    public int cut(int n) {
        if (n < 0 || n > input.count) {
            return BAD;
        }
        int went = input.count - n;
        input.count = n;
        return went;
    }

    public int take() {
        input.count = Math.min(output.count, INPUT_ROOM);
        System.arraycopy(output.bytes, 0, input.bytes, 0, input.count);
        return input.count;
    }

    public int size(int which) {
        if (which == 0) {
            return input.count;
        }
        return which == 1 ? output.count : BAD;
    }

    public int at(int which, int i) {
        if (which == 0) {
            return input.byteAt(i);
        }
        return which == 1 ? output.byteAt(i) : NONE;
    }

    public int pack(int chain, boolean lazy) {
        if (chain < 0 || chain > MOST_CHAIN) {
            return BAD;
        }
        packer.run(input, output, chain, lazy);
        return output.count;
    }

    public int unpack() {
        int fault = unpacker.run(input, output);
        return fault == FINE ? output.count : -10 - fault;
    }

    public int read() {
        return unpacker.bitsRead;
    }

    public int told(int k) {
        switch (k) {
            case 0:
                return packer.storedBlocks + packer.fixedBlocks + packer.madeBlocks;
            case 1:
                return packer.storedBlocks;
            case 2:
                return packer.fixedBlocks;
            case 3:
                return packer.madeBlocks;
            case 4:
                return packer.matches;
            case 5:
                return packer.singles;
            case 6:
                return unpacker.blocks;
            case 7:
                return unpacker.matches;
            default:
                return BAD;
        }
    }

    public int length(int table, int symbol) {
        if (table == 0 && symbol >= 0 && symbol < SYMBOLS) {
            return packer.madeSymbols.lengths[symbol];
        }
        if (table == 1 && symbol >= 0 && symbol < DISTANCES) {
            return packer.madeDistances.lengths[symbol];
        }
        return BAD;
    }

    private static int extraOfSymbol(int s) {
        return s < 265 || s >= LAST_LENGTH ? 0 : (s - 261) / 4;
    }

    private static int baseOfSymbol(int s) {
        if (s < 265) {
            return s - 254;
        }
        return s >= LAST_LENGTH ? LONGEST_MATCH : 3 + (4 + (s - 261) % 4 << extraOfSymbol(s));
    }

    private static int extraOfDistance(int d) {
        return d < 4 ? 0 : d / 2 - 1;
    }

    private static int baseOfDistance(int d) {
        return d < 4 ? d + 1 : 1 + (2 + d % 2 << extraOfDistance(d));
    }

    private static int symbolForLength(int length) {
        if (length >= LONGEST_MATCH) {
            return LAST_LENGTH;
        }
        int over = length - LEAST_MATCH;
        int e = Math.max(bitsIn(over) - 3, 0);
        return 257 + 4 * e + (over >> e);
    }

    private static int symbolForDistance(int distance) {
        int over = distance - 1;
        int e = Math.max(bitsIn(over) - 2, 0);
        return 2 * e + (over >> e);
    }

    private static int bitsIn(int number) {
        for (int k = 0; k < 31; k++) {
            if (number >> k == 0) {
                return k;
            }
        }
        return 31;
    }

    private static int extraOfTold(int s) {
        switch (s) {
            case AGAIN:
                return 2;
            case FEW_ZEROS:
                return 3;
            case MANY_ZEROS:
                return 7;
            default:
                return 0;
        }
    }

    private static int leastOfTold(int s) {
        return s == MANY_ZEROS ? 11 : 3;
    }

    private static int fixedLength(int s) {
        if (s < 144) {
            return 8;
        }
        if (s < 256) {
            return 9;
        }
        return s < 280 ? 7 : 8;
    }

    /** Bytes, and a place among their bits from which on they are read, or behind which they are put. */
    private static final class Row {
        final byte[] bytes = new byte[OUTPUT_ROOM];
        int count = 0;
        int place = 0;

        boolean has(int i) {
            return i >= 0 && i < count;
        }

        int byteAt(int i) {
            return i >= 0 && i < count ? bytes[i] & 255 : NONE;
        }

        void clear() {
            count = 0;
            place = 0;
        }

        boolean add(int b, int room) {
            if (count >= room || count >= OUTPUT_ROOM) {
                return false;
            }
            bytes[count] = (byte) b;
            count++;
            return true;
        }

        int bitsLeft() {
            return 8 * count - place;
        }

        int nextBit() {
            int i = place >> 3;
            if (i < 0 || i >= count) {
                return -SHORT_FAULT;
            }
            int bit = bytes[i] >> (place & 7) & 1;
            place++;
            return bit;
        }

        /** The number, or a fault below 0: then whatever bits there were have been read. */
        int nextNumber(int k) {
            if (bitsLeft() < k) {
                place = 8 * count;
                return -SHORT_FAULT;
            }
            int number = 0;
            for (int i = 0; i < k; i++) {
                number |= nextBit() << i;
            }
            return number;
        }

        void skipToByte() {
            place = place + 7 & -8;
        }

        void putNumber(int number, int k) {
            for (int i = 0; i < k; i++) {
                int last = place >> 3;
                if (last < 0 || last >= OUTPUT_ROOM) {
                    return;
                }
                if ((place & 7) == 0) {
                    bytes[last] = 0;
                    count = last + 1;
                }
                bytes[last] |= (byte) ((number >> i & 1) << (place & 7));
                place++;
            }
        }

        int check() {
            int a = 1;
            int b = 0;
            for (int i = 0; i < count; i++) {
                a = (a + byteAt(i)) % CHECK_MODULUS;
                b = (b + a) % CHECK_MODULUS;
            }
            return b << 16 | a;
        }
    }

    /** Codes by which symbols are read. */
    private static final class ReadCodes {
        private final int[] counts = new int[LONGEST_CODE + 1];
        private final int[] symbols = new int[FIXED_SYMBOLS];
        private int codes = 0;
        private int longest = 0;

        void make(int[] lengths, int from, int n) {
            Arrays.fill(counts, 0);
            for (int s = 0; s < n; s++) {
                counts[lengths[from + s] & 15]++;
            }
            codes = 0;
            longest = 0;
            for (int k = 1; k <= LONGEST_CODE; k++) {
                if (counts[k] > 0) {
                    longest = k;
                    addSymbols(lengths, from, n, k);
                }
            }
        }

        private void addSymbols(int[] lengths, int from, int n, int k) {
            for (int s = 0; s < n; s++) {
                if (lengths[from + s] == k) {
                    symbols[codes] = s;
                    codes++;
                }
            }
        }

        boolean fit() {
            int sum = 0;
            for (int k = 1; k <= LONGEST_CODE; k++) {
                sum += counts[k] << LONGEST_CODE - k;
            }
            return sum == 1 << LONGEST_CODE || codes == 1 && longest == 1;
        }

        boolean none() {
            return codes == 0;
        }

        /** The symbol, or a fault below 0. */
        int next(Row row) {
            int code = 0;
            int first = 0;
            int before = 0;
            for (int k = 1; k <= longest; k++) {
                int bit = row.nextBit();
                if (bit < 0) {
                    return bit;
                }
                code = 2 * code + bit;
                first = 2 * first;
                int nth = code - first;
                if (nth >= 0 && nth < counts[k] && before + nth < codes) {
                    return symbols[before + nth];
                }
                first += counts[k];
                before += counts[k];
            }
            return -CODE_FAULT;
        }
    }

    /** Unpacks a row; its methods answer a fault, or FINE. */
    private static final class Unpacker {
        private final ReadCodes fixedSymbols = new ReadCodes();
        private final ReadCodes fixedDistances = new ReadCodes();
        private final ReadCodes madeSymbols = new ReadCodes();
        private final ReadCodes madeDistances = new ReadCodes();
        private final ReadCodes lengthCodes = new ReadCodes();
        private final int[] lengths = new int[SYMBOLS + DISTANCES];
        private int farthest = 0;
        private boolean last = false;
        int blocks = 0;
        int matches = 0;
        int bitsRead = 0;

        Unpacker() {
            int[] fixed = new int[FIXED_SYMBOLS];
            for (int s = 0; s < FIXED_SYMBOLS; s++) {
                fixed[s] = fixedLength(s);
            }
            fixedSymbols.make(fixed, 0, FIXED_SYMBOLS);
            Arrays.fill(fixed, 5);
            fixedDistances.make(fixed, 0, FIXED_DISTANCES);
        }

        int run(Row in, Row out) {
            in.place = 0;
            out.clear();
            blocks = 0;
            matches = 0;
            last = false;
            int fault = readHead(in);
            for (int i = 0; i < INPUT_BITS && fault == FINE && !last; i++) {
                fault = readBlock(in, out);
            }
            if (fault == FINE) {
                fault = readCheck(in, out);
            }
            bitsRead = in.place;
            return fault;
        }

        private int readHead(Row in) {
            int x = in.nextNumber(8);
            int y = in.nextNumber(8);
            if (x < 0 || y < 0) {
                return SHORT_FAULT;
            }
            if ((256 * x + y) % 31 != 0 || (x & 15) != 8 || x >> 4 > 7 || (y & 32) != 0) {
                return HEAD_FAULT;
            }
            farthest = 256 << (x >> 4);
            return FINE;
        }

        private int readCheck(Row in, Row out) {
            in.skipToByte();
            int check = 0;
            for (int i = 0; i < 4; i++) {
                int b = in.nextNumber(8);
                if (b < 0) {
                    return SHORT_FAULT;
                }
                check = check << 8 | b;
            }
            if (check != out.check()) {
                return CHECK_FAULT;
            }
            return in.bitsLeft() > 0 ? REST_FAULT : FINE;
        }

        private int readBlock(Row in, Row out) {
            int first = in.nextBit();
            if (first < 0) {
                return SHORT_FAULT;
            }
            last = first == 1;
            blocks++;
            int kind = in.nextNumber(2);
            if (kind < 0) {
                return SHORT_FAULT;
            }
            if (kind == STORED) {
                return readStored(in, out);
            }
            if (kind == FIXED) {
                return readSymbols(in, out, fixedSymbols, fixedDistances);
            }
            int fault = kind == MADE ? readCodes(in) : KIND_FAULT;
            return fault == FINE ? readSymbols(in, out, madeSymbols, madeDistances) : fault;
        }

        private int readStored(Row in, Row out) {
            in.skipToByte();
            int n = in.nextNumber(16);
            int rest = in.nextNumber(16);
            if (n < 0 || rest < 0) {
                return SHORT_FAULT;
            }
            if (rest != 65535 - n) {
                return LENGTH_FAULT;
            }
            for (int i = 0; i < n; i++) {
                int b = in.nextNumber(8);
                if (b < 0) {
                    return SHORT_FAULT;
                }
                if (!out.add(b, INPUT_ROOM)) {
                    return FULL_FAULT;
                }
            }
            return FINE;
        }

        private int readCodes(Row in) {
            int h = in.nextNumber(5);
            int d = in.nextNumber(5);
            if (h < 0 || d < 0) {
                return SHORT_FAULT;
            }
            int symbols = h + 257;
            int distances = d + 1;
            if (symbols > SYMBOLS || distances > DISTANCES) {
                return COUNT_FAULT;
            }
            int fault = readLengthCodes(in);
            if (fault == FINE) {
                fault = readLengths(in, symbols + distances);
            }
            if (fault != FINE) {
                return fault;
            }
            madeSymbols.make(lengths, 0, symbols);
            madeDistances.make(lengths, symbols, distances);
            boolean fit = lengths[END] > 0 && madeSymbols.fit() && (madeDistances.fit() || madeDistances.none());
            return fit ? FINE : CODES_FAULT;
        }

        private int readLengthCodes(Row in) {
            int c = in.nextNumber(4);
            if (c < 0) {
                return SHORT_FAULT;
            }
            Arrays.fill(lengths, 0);
            for (int i = 0; i < c + 4 && i < LENGTH_SYMBOLS; i++) {
                int k = in.nextNumber(3);
                if (k < 0) {
                    return SHORT_FAULT;
                }
                lengths[LENGTH_ORDER[i]] = k;
            }
            lengthCodes.make(lengths, 0, LENGTH_SYMBOLS);
            return lengthCodes.fit() ? FINE : CODES_FAULT;
        }

        private int readLengths(Row in, int due) {
            int have = 0;
            for (int i = 0; i < due && have < due; i++) {
                int s = lengthCodes.next(in);
                if (s < 0) {
                    return -s;
                }
                if (s == AGAIN && have == 0) {
                    return REPEAT_FAULT;
                }
                int more = in.nextNumber(extraOfTold(s));
                if (more < 0) {
                    return SHORT_FAULT;
                }
                int times = s < AGAIN ? 1 : leastOfTold(s) + more;
                if (times > due - have) {
                    return REPEAT_FAULT;
                }
                int length = s < AGAIN ? s : s == AGAIN ? lengths[have - 1] : 0;
                Arrays.fill(lengths, have, have + times, length);
                have += times;
            }
            return FINE;
        }

        private int readSymbols(Row in, Row out, ReadCodes symbols, ReadCodes distances) {
            // Each symbol takes a bit at least, so there can't be more of them than bits.
            for (int i = 0; i <= INPUT_BITS; i++) {
                int s = symbols.next(in);
                if (s < 0) {
                    return -s;
                }
                if (s == END) {
                    return FINE;
                }
                int fault = s < END ? putSingle(out, s) : readMatch(in, out, s, distances);
                if (fault != FINE) {
                    return fault;
                }
            }
            return SHORT_FAULT;
        }

        private int putSingle(Row out, int b) {
            return out.add(b, INPUT_ROOM) ? FINE : FULL_FAULT;
        }

        private int readMatch(Row in, Row out, int s, ReadCodes distances) {
            if (s > LAST_LENGTH) {
                return CODE_FAULT;
            }
            matches++;
            int longer = in.nextNumber(extraOfSymbol(s));
            if (longer < 0) {
                return SHORT_FAULT;
            }
            int d = distances.next(in);
            if (d < 0) {
                return -d;
            }
            if (d >= DISTANCES) {
                return CODE_FAULT;
            }
            int farther = in.nextNumber(extraOfDistance(d));
            if (farther < 0) {
                return SHORT_FAULT;
            }
            return repeat(out, baseOfSymbol(s) + longer, baseOfDistance(d) + farther);
        }

        private int repeat(Row out, int length, int distance) {
            if (distance > out.count || distance > farthest) {
                return FAR_FAULT;
            }
            for (int i = 0; i < length; i++) {
                if (!out.add(out.byteAt(out.count - distance), INPUT_ROOM)) {
                    return FULL_FAULT;
                }
            }
            return FINE;
        }
    }

    /** Finds the best match at a place. */
    private static final class Matcher {
        private final int[] sorted = new int[INPUT_ROOM];
        private final int[] nearest = new int[INPUT_ROOM];
        private final int[] starts = new int[257];
        int length = 0;
        int distance = 0;

        /** Links each place to the nearest one before it that has the same three bytes. */
        void prepare(Row row) {
            int n = Math.min(row.count, INPUT_ROOM) - 2;
            for (int i = 0; i < n; i++) {
                nearest[i] = i;
            }
            // Sorted stably by the last byte, then the middle, then the first one, places with the
            // same three bytes stand side by side and rise.
            sort(row, n, 2, nearest, sorted);
            sort(row, n, 1, sorted, nearest);
            sort(row, n, 0, nearest, sorted);
            for (int i = 0; i < n; i++) {
                boolean same = i > 0 && sameThree(row, sorted[i - 1], sorted[i]);
                nearest[sorted[i]] = same ? sorted[i - 1] : NONE;
            }
        }

        private void sort(Row row, int n, int offset, int[] from, int[] to) {
            Arrays.fill(starts, 0);
            for (int i = 0; i < n; i++) {
                starts[(row.bytes[i + offset] & 255) + 1]++;
            }
            for (int b = 0; b < 256; b++) {
                starts[b + 1] += starts[b];
            }
            for (int i = 0; i < n; i++) {
                int b = row.bytes[from[i] + offset] & 255;
                to[starts[b]] = from[i];
                starts[b]++;
            }
        }

        private boolean sameThree(Row row, int q, int p) {
            return row.bytes[q] == row.bytes[p] && row.bytes[q + 1] == row.bytes[p + 1]
                && row.bytes[q + 2] == row.bytes[p + 2];
        }

        /** The best match at p, of a block that ends at end, is then in length (0: none) and distance. */
        void find(Row row, int p, int end, int chain) {
            length = 0;
            distance = 0;
            int most = Math.min(end - p, LONGEST_MATCH);
            if (most < LEAST_MATCH) {
                return;
            }
            int q = nearest[p];
            for (int i = 0; i < chain && q >= 0 && length < most; i++) {
                // A candidate that differs where the best one so far ends can't be longer.
                if (row.bytes[q + length] == row.bytes[p + length]) {
                    int same = countSame(row, q, p, most);
                    if (same > length) {
                        length = same;
                        distance = p - q;
                    }
                }
                q = nearest[q];
            }
        }

        private int countSame(Row row, int q, int p, int most) {
            for (int i = LEAST_MATCH; i < most; i++) {
                if (row.bytes[q + i] != row.bytes[p + i]) {
                    return i;
                }
            }
            return most;
        }
    }

    /** Codes by which symbols are written. */
    private static final class WriteCodes {
        final int[] lengths = new int[FIXED_SYMBOLS];
        // Turned round, as the bits of a number are put from its lowest one on, a code's from its highest.
        private final int[] turnedCodes = new int[FIXED_SYMBOLS];

        void makeCodes() {
            int code = 0;
            for (int k = 1; k <= LONGEST_CODE; k++) {
                code = 2 * code;
                for (int s = 0; s < FIXED_SYMBOLS; s++) {
                    if (lengths[s] == k) {
                        turnedCodes[s] = turned(code, k);
                        code++;
                    }
                }
            }
        }

        private int turned(int code, int k) {
            int number = 0;
            for (int i = 0; i < k; i++) {
                number = 2 * number + (code >> i & 1);
            }
            return number;
        }

        void write(Row out, int s) {
            out.putNumber(turnedCodes[s], lengths[s]);
        }
    }

    /** Makes the lengths of codes for counts, by lists. */
    private static final class LengthMaker {
        private final int[] order = new int[SYMBOLS];
        private final int[] firstRow = new int[2 * SYMBOLS];
        private final int[] secondRow = new int[2 * SYMBOLS];
        // Bit k tells whether this item of list k is a pair: as pairs keep their order, what is taken
        // of a list is always its first items, and no more than this has to be known of them.
        private final int[] pairs = new int[2 * SYMBOLS];

        void make(int[] counts, int n, int limit, int[] lengths) {
            Arrays.fill(lengths, 0);
            int m = sortSymbols(counts, n);
            if (m == 1) {
                lengths[order[0]] = 1;
            }
            if (m > 1) {
                makeLists(counts, m, limit);
                takeItems(m, limit, lengths);
            }
        }

        private int sortSymbols(int[] counts, int n) {
            int m = 0;
            for (int s = 0; s < n; s++) {
                if (counts[s] > 0) {
                    int i = m;
                    for (; i > 0 && counts[order[i - 1]] > counts[s]; i--) {
                        order[i] = order[i - 1];
                    }
                    order[i] = s;
                    m++;
                }
            }
            return m;
        }

        private void makeLists(int[] counts, int m, int limit) {
            Arrays.fill(pairs, 0);
            int[] before = firstRow;
            int[] now = secondRow;
            int items = 0;
            for (int list = 0; list < limit; list++) {
                items = makeList(counts, m, list, before, items, now);
                int[] other = before;
                before = now;
                now = other;
            }
        }

        /** Merges the symbols with the pairs of the list before; how many items there are. */
        private int makeList(int[] counts, int m, int list, int[] before, int itemsBefore, int[] now) {
            int items = m + itemsBefore / 2;
            int symbol = 0;
            int second = 1;
            for (int i = 0; i < items; i++) {
                int pair = second < itemsBefore ? before[second - 1] + before[second] : 0;
                boolean takesSymbol = symbol < m && (second >= itemsBefore || counts[order[symbol]] <= pair);
                if (takesSymbol) {
                    now[i] = counts[order[symbol]];
                    symbol++;
                } else {
                    now[i] = pair;
                    pairs[i] |= 1 << list;
                    second += 2;
                }
            }
            return items;
        }

        private void takeItems(int m, int limit, int[] lengths) {
            int taken = 2 * m - 2;
            for (int list = limit - 1; list >= 0; list--) {
                int symbols = 0;
                for (int i = 0; i < taken; i++) {
                    if ((pairs[i] >> list & 1) == 0) {
                        lengths[order[symbols]]++;
                        symbols++;
                    }
                }
                taken = 2 * (taken - symbols);
            }
        }
    }

    /** The symbols that were found for a block. */
    private static final class Found {
        // A byte as it is; a match as its length, shifted left, and its distance.
        private final int[] items = new int[BLOCK_ROOM];
        private int count = 0;
        final int[] symbolCounts = new int[SYMBOLS];
        final int[] distanceCounts = new int[DISTANCES];

        void start() {
            count = 0;
            Arrays.fill(symbolCounts, 0);
            Arrays.fill(distanceCounts, 0);
            symbolCounts[END] = 1;
        }

        void addSingle(int b) {
            addItem(b);
            symbolCounts[b & 255]++;
        }

        void addMatch(int length, int distance) {
            addItem(length << 16 | distance);
            symbolCounts[symbolForLength(length)]++;
            distanceCounts[symbolForDistance(distance)]++;
        }

        private void addItem(int item) {
            if (count < BLOCK_ROOM) {
                items[count] = item;
                count++;
            }
        }

        int bits(WriteCodes symbols, WriteCodes distances) {
            int bits = 0;
            for (int s = 0; s < SYMBOLS; s++) {
                bits += symbolCounts[s] * (symbols.lengths[s] + extraOfSymbol(s));
            }
            for (int d = 0; d < DISTANCES; d++) {
                bits += distanceCounts[d] * (distances.lengths[d] + extraOfDistance(d));
            }
            return bits;
        }

        void write(Row out, WriteCodes symbols, WriteCodes distances) {
            for (int i = 0; i < count; i++) {
                int item = items[i];
                if (item < END) {
                    symbols.write(out, item);
                } else {
                    writeMatch(out, item, symbols, distances);
                }
            }
            symbols.write(out, END);
        }

        private void writeMatch(Row out, int item, WriteCodes symbols, WriteCodes distances) {
            int length = item >> 16;
            int s = symbolForLength(length);
            symbols.write(out, s);
            out.putNumber(length - baseOfSymbol(s), extraOfSymbol(s));
            int distance = item & 65535;
            int d = symbolForDistance(distance);
            distances.write(out, d);
            out.putNumber(distance - baseOfDistance(d), extraOfDistance(d));
        }
    }

    /** How a made block tells the lengths of its codes. */
    private static final class Tale {
        private final int[] row = new int[SYMBOLS + DISTANCES];
        private final int[] items = new int[SYMBOLS + DISTANCES];
        private final int[] mores = new int[SYMBOLS + DISTANCES];
        private final int[] counts = new int[LENGTH_SYMBOLS];
        private final WriteCodes codes = new WriteCodes();
        private int itemCount = 0;
        private int symbols = 0;
        private int distances = 0;
        private int lengthCodes = 0;

        void make(WriteCodes symbolCodes, WriteCodes distanceCodes, LengthMaker maker) {
            symbols = needed(symbolCodes.lengths, SYMBOLS, 257);
            distances = needed(distanceCodes.lengths, DISTANCES, 1);
            System.arraycopy(symbolCodes.lengths, 0, row, 0, symbols);
            System.arraycopy(distanceCodes.lengths, 0, row, symbols, distances);
            tellRow(symbols + distances);
            maker.make(counts, LENGTH_SYMBOLS, LONGEST_LENGTH_CODE, codes.lengths);
            lengthCodes = 4;
            for (int i = 4; i < LENGTH_SYMBOLS; i++) {
                if (codes.lengths[LENGTH_ORDER[i]] > 0) {
                    lengthCodes = i + 1;
                }
            }
        }

        /** How many of the lengths have to be told: up to the last one that is not 0. */
        private int needed(int[] lengths, int most, int least) {
            int n = least;
            for (int i = least; i < most; i++) {
                if (lengths[i] > 0) {
                    n = i + 1;
                }
            }
            return n;
        }

        private void tellRow(int n) {
            itemCount = 0;
            Arrays.fill(counts, 0);
            int from = 0;
            for (int i = 1; i <= n; i++) {
                if (i == n || row[i] != row[from]) {
                    tellStretch(row[from], i - from);
                    from = i;
                }
            }
        }

        private void tellStretch(int length, int times) {
            int left = times;
            if (length == 0) {
                left = tellBy(MANY_ZEROS, 138, left);
                left = tellBy(FEW_ZEROS, 10, left);
            } else {
                addItem(length, 0);
                left = tellBy(AGAIN, 6, left - 1);
            }
            for (int i = 0; i < left; i++) {
                addItem(length, 0);
            }
        }

        /** Tells as many as it can by s, most of them at a time; how many are left. */
        private int tellBy(int s, int most, int times) {
            int least = leastOfTold(s);
            int left = times;
            for (; left >= least; left -= Math.min(left, most)) {
                addItem(s, Math.min(left, most) - least);
            }
            return left;
        }

        private void addItem(int s, int more) {
            if (itemCount < items.length) {
                items[itemCount] = s;
                mores[itemCount] = more;
                itemCount++;
                counts[s]++;
            }
        }

        int bits() {
            int bits = 14 + 3 * lengthCodes;
            for (int s = 0; s < LENGTH_SYMBOLS; s++) {
                bits += counts[s] * (codes.lengths[s] + extraOfTold(s));
            }
            return bits;
        }

        void write(Row out) {
            out.putNumber(symbols - 257, 5);
            out.putNumber(distances - 1, 5);
            out.putNumber(lengthCodes - 4, 4);
            for (int i = 0; i < lengthCodes; i++) {
                out.putNumber(codes.lengths[LENGTH_ORDER[i]], 3);
            }
            codes.makeCodes();
            for (int i = 0; i < itemCount; i++) {
                codes.write(out, items[i]);
                out.putNumber(mores[i], extraOfTold(items[i]));
            }
        }
    }

    /** Packs a row. */
    private static final class Packer {
        private final Matcher matcher = new Matcher();
        private final LengthMaker maker = new LengthMaker();
        private final Found found = new Found();
        private final Tale tale = new Tale();
        private final WriteCodes fixedSymbols = new WriteCodes();
        private final WriteCodes fixedDistances = new WriteCodes();
        final WriteCodes madeSymbols = new WriteCodes();
        final WriteCodes madeDistances = new WriteCodes();
        int storedBlocks = 0;
        int fixedBlocks = 0;
        int madeBlocks = 0;
        int matches = 0;
        int singles = 0;

        Packer() {
            for (int s = 0; s < FIXED_SYMBOLS; s++) {
                fixedSymbols.lengths[s] = fixedLength(s);
            }
            for (int d = 0; d < FIXED_DISTANCES; d++) {
                fixedDistances.lengths[d] = 5;
            }
            fixedSymbols.makeCodes();
            fixedDistances.makeCodes();
        }

        void run(Row in, Row out, int chain, boolean lazy) {
            storedBlocks = 0;
            fixedBlocks = 0;
            madeBlocks = 0;
            matches = 0;
            singles = 0;
            out.clear();
            out.putNumber(HEAD_FIRST, 8);
            out.putNumber(HEAD_SECOND, 8);
            matcher.prepare(in);
            for (int from = 0; from == 0 || from < in.count; from += BLOCK_ROOM) {
                int end = Math.min(from + BLOCK_ROOM, in.count);
                findSymbols(in, from, end, chain, lazy);
                maker.make(found.symbolCounts, SYMBOLS, LONGEST_CODE, madeSymbols.lengths);
                maker.make(found.distanceCounts, DISTANCES, LONGEST_CODE, madeDistances.lengths);
                tale.make(madeSymbols, madeDistances, maker);
                writeBlock(in, out, from, end);
            }
            out.skipToByte();
            int check = in.check();
            for (int shift = 24; shift >= 0; shift -= 8) {
                out.putNumber(check >>> shift, 8);
            }
        }

        private void findSymbols(Row in, int from, int end, int chain, boolean lazy) {
            found.start();
            boolean known = false;
            int step = 1;
            for (int p = from; p < end; p += Math.max(step, 1)) {
                if (!known) {
                    matcher.find(in, p, end, chain);
                }
                int length = matcher.length;
                int distance = matcher.distance;
                // What is found one place on stays in the matcher: if it is longer, it is what p looks at next.
                known = lazy && length > 0;
                if (known) {
                    matcher.find(in, p + 1, end, chain);
                }
                if (length == 0 || known && matcher.length > length) {
                    found.addSingle(in.byteAt(p));
                    singles++;
                    step = 1;
                } else {
                    found.addMatch(length, distance);
                    matches++;
                    known = false;
                    step = length;
                }
            }
        }

        private void writeBlock(Row in, Row out, int from, int end) {
            int stored = (-(out.place + 3) & 7) + 32 + 8 * (end - from);
            int fixed = found.bits(fixedSymbols, fixedDistances);
            int made = tale.bits() + found.bits(madeSymbols, madeDistances);
            out.putNumber(end == in.count ? 1 : 0, 1);
            if (stored <= fixed && stored <= made) {
                storedBlocks++;
                writeStored(in, out, from, end);
            } else if (fixed <= made) {
                fixedBlocks++;
                out.putNumber(FIXED, 2);
                found.write(out, fixedSymbols, fixedDistances);
            } else {
                madeBlocks++;
                madeSymbols.makeCodes();
                madeDistances.makeCodes();
                out.putNumber(MADE, 2);
                tale.write(out);
                found.write(out, madeSymbols, madeDistances);
            }
        }

        private void writeStored(Row in, Row out, int from, int end) {
            out.putNumber(STORED, 2);
            out.skipToByte();
            out.putNumber(end - from, 16);
            out.putNumber(65535 - (end - from), 16);
            for (int i = from; i < end; i++) {
                out.putNumber(in.byteAt(i), 8);
            }
        }
    }
}
