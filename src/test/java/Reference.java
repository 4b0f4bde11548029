import java.util.ArrayList;
import java.util.Collections;
import java.util.Comparator;
import java.util.HashMap;
import java.util.HashSet;
import java.util.List;
import java.util.Map;
import java.util.Set;

/**
 * The document's words on packing and unpacking, taken one by one with no thought of speed: matches by
 * looking at every place, lists of items that hold their items, codes as texts of 0 and 1.
 */
final class Reference {
    static final int[] ORDER = {16, 17, 18, 0, 8, 7, 9, 6, 10, 5, 11, 4, 12, 3, 13, 2, 14, 1, 15};

    private Reference() {
    }

    static int check(byte[] bytes) {
        long a = 1;
        long b = 0;
        for (byte x : bytes) {
            a += x & 255;
            b += a;
        }
        return (int) (65536 * (b % 65521) + a % 65521);
    }

    static int extra(int s) {
        return s >= 265 && s <= 284 ? (s - 261) / 4 : 0;
    }

    static int base(int s) {
        return s <= 264 ? s - 254 : s == 285 ? 258 : 3 + ((4 + (s - 261) % 4) << extra(s));
    }

    static int farExtra(int d) {
        return d < 4 ? 0 : d / 2 - 1;
    }

    static int farBase(int d) {
        return d < 4 ? d + 1 : 1 + ((2 + d % 2) << farExtra(d));
    }

    static int[] fixedLengths() {
        int[] lengths = new int[288];
        for (int s = 0; s < 288; s++) {
            lengths[s] = s <= 143 ? 8 : s <= 255 ? 9 : s <= 279 ? 7 : 8;
        }
        return lengths;
    }

    static int[] fixedFarLengths() {
        int[] lengths = new int[32];
        java.util.Arrays.fill(lengths, 5);
        return lengths;
    }

    static String[] codes(int[] lengths) {
        String[] codes = new String[lengths.length];
        int next = 0;
        for (int k = 1; k <= 15; k++) {
            next *= 2;
            for (int s = 0; s < lengths.length; s++) {
                if (lengths[s] == k) {
                    String bits = Integer.toBinaryString(next);
                    codes[s] = "0".repeat(Math.max(0, k - bits.length())) + bits;
                    next++;
                }
            }
        }
        return codes;
    }

    private static final class Item {
        final long count;
        final int symbol;
        final Item one;
        final Item two;

        Item(long count, int symbol, Item one, Item two) {
            this.count = count;
            this.symbol = symbol;
            this.one = one;
            this.two = two;
        }

        void take(int[] lengths) {
            if (symbol >= 0) {
                lengths[symbol]++;
            } else {
                one.take(lengths);
                two.take(lengths);
            }
        }
    }

    static int[] lengths(int[] counts, int limit) {
        int[] lengths = new int[counts.length];
        List<Item> symbols = new ArrayList<>();
        for (int s = 0; s < counts.length; s++) {
            if (counts[s] > 0) {
                symbols.add(new Item(counts[s], s, null, null));
            }
        }
        Comparator<Item> rising = Comparator.comparingLong(item -> item.count);
        Collections.sort(symbols, rising);
        if (symbols.size() == 1) {
            lengths[symbols.get(0).symbol] = 1;
        }
        if (symbols.size() < 2) {
            return lengths;
        }
        List<Item> list = symbols;
        for (int k = 1; k < limit; k++) {
            List<Item> next = new ArrayList<>(symbols);
            for (int i = 0; i + 1 < list.size(); i += 2) {
                Item one = list.get(i);
                Item two = list.get(i + 1);
                next.add(new Item(one.count + two.count, -1, one, two));
            }
            // The sort is stable, so that of the same counts symbols stay before pairs.
            Collections.sort(next, rising);
            list = next;
        }
        for (int i = 0; i < 2 * symbols.size() - 2; i++) {
            list.get(i).take(lengths);
        }
        return lengths;
    }

    /** What pack() has to make and to tell. */
    static final class Packed {
        byte[] bytes;
        final int[] told = new int[6];
        int[] symbolLengths;
        int[] farLengths;
        /** How many bits the last block takes as stored, fixed and made. */
        final int[] bits = new int[3];
    }

    static Packed pack(byte[] input, int chain, boolean lazy) {
        Packed packed = new Packed();
        Bits out = Bits.packed();
        int from = 0;
        do {
            int end = Math.min(from + 4096, input.length);
            packBlock(input, from, end, chain, lazy, packed, out);
            from = end;
        } while (from < input.length);
        packed.bytes = out.check(input).bytes();
        return packed;
    }

    private static void packBlock(byte[] input, int from, int end, int chain, boolean lazy, Packed packed, Bits out) {
        List<int[]> found = find(input, from, end, chain, lazy);
        int[] counts = new int[286];
        int[] farCounts = new int[30];
        counts[256] = 1;
        for (int[] one : found) {
            if (one.length == 1) {
                counts[one[0]]++;
                packed.told[5]++;
            } else {
                counts[symbol(one[0])]++;
                farCounts[farSymbol(one[1])]++;
                packed.told[4]++;
            }
        }
        packed.symbolLengths = lengths(counts, 15);
        packed.farLengths = lengths(farCounts, 15);
        int first = end == input.length ? 1 : 0;
        int zeros = (8 - (out.count() + 3) % 8) % 8;
        int stored = 3 + zeros + 32 + 8 * (end - from);
        StringBuilder fixed = new StringBuilder();
        symbols(found, codes(fixedLengths()), codes(fixedFarLengths()), fixed);
        StringBuilder made = new StringBuilder();
        tale(packed.symbolLengths, packed.farLengths, made);
        symbols(found, codes(packed.symbolLengths), codes(packed.farLengths), made);
        packed.bits[0] = stored;
        packed.bits[1] = 3 + fixed.length();
        packed.bits[2] = 3 + made.length();
        packed.told[0]++;
        if (stored <= 3 + fixed.length() && stored <= 3 + made.length()) {
            packed.told[1]++;
            out.start(first, 0).pad(0).stored(java.util.Arrays.copyOfRange(input, from, end));
        } else if (fixed.length() <= made.length()) {
            packed.told[2]++;
            out.start(first, 1).code(fixed.toString());
        } else {
            packed.told[3]++;
            out.start(first, 2).code(made.toString());
        }
    }

    private static List<int[]> find(byte[] input, int from, int end, int chain, boolean lazy) {
        List<int[]> found = new ArrayList<>();
        int p = from;
        while (p < end) {
            int[] here = best(input, p, end, chain);
            int[] next = lazy ? best(input, p + 1, end, chain) : null;
            if (here == null || next != null && next[0] > here[0]) {
                found.add(new int[] {input[p] & 255});
                p++;
            } else {
                found.add(here);
                p += here[0];
            }
        }
        return found;
    }

    private static int[] best(byte[] input, int p, int end, int chain) {
        int[] best = null;
        int candidates = 0;
        for (int q = p - 1; q >= 0 && candidates < chain && p + 3 <= end; q--) {
            int n = 0;
            while (n < 258 && p + n < end && input[p + n] == input[q + n]) {
                n++;
            }
            if (n >= 3) {
                candidates++;
                if (best == null || n > best[0]) {
                    best = new int[] {n, p - q};
                }
            }
        }
        return best;
    }

    private static int symbol(int length) {
        for (int s = 285; s > 257; s--) {
            if (base(s) <= length) {
                return s;
            }
        }
        return 257;
    }

    private static int farSymbol(int distance) {
        for (int d = 29; d > 0; d--) {
            if (farBase(d) <= distance) {
                return d;
            }
        }
        return 0;
    }

    private static void number(int value, int k, StringBuilder bits) {
        for (int i = 0; i < k; i++) {
            bits.append(value >> i & 1);
        }
    }

    private static void symbols(List<int[]> found, String[] codes, String[] farCodes, StringBuilder bits) {
        for (int[] one : found) {
            if (one.length == 1) {
                bits.append(codes[one[0]]);
            } else {
                int s = symbol(one[0]);
                bits.append(codes[s]);
                number(one[0] - base(s), extra(s), bits);
                int d = farSymbol(one[1]);
                bits.append(farCodes[d]);
                number(one[1] - farBase(d), farExtra(d), bits);
            }
        }
        bits.append(codes[256]);
    }

    private static void tale(int[] symbolLengths, int[] farLengths, StringBuilder bits) {
        int symbols = symbolLengths.length;
        while (symbols > 257 && symbolLengths[symbols - 1] == 0) {
            symbols--;
        }
        int distances = farLengths.length;
        while (distances > 1 && farLengths[distances - 1] == 0) {
            distances--;
        }
        List<Integer> row = new ArrayList<>();
        for (int s = 0; s < symbols; s++) {
            row.add(symbolLengths[s]);
        }
        for (int d = 0; d < distances; d++) {
            row.add(farLengths[d]);
        }
        List<int[]> told = tell(row);
        int[] counts = new int[19];
        for (int[] one : told) {
            counts[one[0]]++;
        }
        int[] lengths = lengths(counts, 7);
        int n = 19;
        while (n > 4 && lengths[ORDER[n - 1]] == 0) {
            n--;
        }
        number(symbols - 257, 5, bits);
        number(distances - 1, 5, bits);
        number(n - 4, 4, bits);
        for (int i = 0; i < n; i++) {
            number(lengths[ORDER[i]], 3, bits);
        }
        String[] codes = codes(lengths);
        for (int[] one : told) {
            bits.append(codes[one[0]]);
            number(one[1], one[0] == 16 ? 2 : one[0] == 17 ? 3 : one[0] == 18 ? 7 : 0, bits);
        }
    }

    private static List<int[]> tell(List<Integer> row) {
        List<int[]> told = new ArrayList<>();
        int i = 0;
        while (i < row.size()) {
            int length = row.get(i);
            int left = 0;
            while (i < row.size() && row.get(i) == length) {
                left++;
                i++;
            }
            if (length == 0) {
                while (left >= 11) {
                    told.add(new int[] {18, Math.min(138, left) - 11});
                    left -= Math.min(138, left);
                }
                if (left >= 3) {
                    told.add(new int[] {17, left - 3});
                    left = 0;
                }
            } else {
                told.add(new int[] {length, 0});
                left--;
                while (left >= 3) {
                    told.add(new int[] {16, Math.min(6, left) - 3});
                    left -= Math.min(6, left);
                }
            }
            for (; left > 0; left--) {
                told.add(new int[] {length, 0});
            }
        }
        return told;
    }

    /** What unpack() has to answer and to tell. */
    static final class Unpacked {
        final List<Byte> made = new ArrayList<>();
        int fault = 0;
        int read = 0;
        int blocks = 0;
        int matches = 0;
        /** Each part of the row in words, as far as it was read. */
        final List<String> parts = new ArrayList<>();

        int answer() {
            return fault == 0 ? made.size() : -10 - fault;
        }

        byte[] bytes() {
            byte[] bytes = new byte[made.size()];
            for (int i = 0; i < bytes.length; i++) {
                bytes[i] = made.get(i);
            }
            return bytes;
        }
    }

    @SuppressWarnings("serial")
    private static final class Fault extends Exception {
        final int number;

        Fault(int number) {
            super(null, null, false, false);
            this.number = number;
        }
    }

    private static final class Codes {
        final Map<String, Integer> symbols = new HashMap<>();
        final Set<String> beginnings = new HashSet<>();

        Codes(int[] lengths) {
            String[] codes = codes(lengths);
            for (int s = 0; s < codes.length; s++) {
                if (codes[s] != null) {
                    symbols.put(codes[s], s);
                    for (int n = 0; n < codes[s].length(); n++) {
                        beginnings.add(codes[s].substring(0, n));
                    }
                }
            }
        }
    }

    private static final class Reader {
        final byte[] input;
        final Unpacked result = new Unpacked();
        int farthest;

        Reader(byte[] input) {
            this.input = input;
        }

        int bit() throws Fault {
            if (result.read >= 8 * input.length) {
                throw new Fault(2);
            }
            int bit = input[result.read / 8] >> result.read % 8 & 1;
            result.read++;
            return bit;
        }

        int number(int k) throws Fault {
            int value = 0;
            for (int i = 0; i < k; i++) {
                value += bit() << i;
            }
            return value;
        }

        void toByte() throws Fault {
            String bits = "";
            while (result.read % 8 != 0) {
                bits += bit();
            }
            part("up to a byte " + bits);
        }

        void part(String words) {
            result.parts.add(words);
        }

        int symbol(Codes codes) throws Fault {
            String bits = "";
            while (!codes.symbols.containsKey(bits)) {
                if (!codes.beginnings.contains(bits)) {
                    throw new Fault(8);
                }
                bits += bit();
            }
            return codes.symbols.get(bits);
        }

        void make(int b) throws Fault {
            if (result.made.size() == 8192) {
                throw new Fault(10);
            }
            result.made.add((byte) b);
        }

        void all() throws Fault {
            int x = number(8);
            int y = number(8);
            if ((256 * x + y) % 31 != 0 || x % 16 != 8 || x / 16 > 7 || (y & 32) != 0) {
                throw new Fault(1);
            }
            farthest = 256 << x / 16;
            boolean last = false;
            while (!last) {
                last = bit() == 1;
                result.blocks++;
                int kind = number(2);
                part("block " + (last ? 1 : 0) + " kind " + kind);
                if (kind == 3) {
                    throw new Fault(3);
                }
                if (kind == 0) {
                    stored();
                } else if (kind == 1) {
                    symbols(new Codes(fixedLengths()), new Codes(fixedFarLengths()));
                } else {
                    made();
                }
            }
            toByte();
            int check = 0;
            for (int i = 0; i < 4; i++) {
                check = check * 256 + number(8);
            }
            if (check != check(result.bytes())) {
                throw new Fault(11);
            }
            if (result.read < 8 * input.length) {
                throw new Fault(12);
            }
        }

        void stored() throws Fault {
            toByte();
            int n = number(16);
            if (number(16) != 65535 - n) {
                throw new Fault(4);
            }
            part("stored " + n);
            for (int i = 0; i < n; i++) {
                make(number(8));
            }
        }

        void symbols(Codes codes, Codes farCodes) throws Fault {
            int s = symbol(codes);
            while (s != 256) {
                if (s > 285) {
                    throw new Fault(8);
                }
                if (s < 256) {
                    part("byte " + s);
                    make(s);
                } else {
                    match(s, farCodes);
                }
                s = symbol(codes);
            }
        }

        void match(int s, Codes farCodes) throws Fault {
            result.matches++;
            int length = base(s) + number(extra(s));
            int d = symbol(farCodes);
            if (d > 29) {
                throw new Fault(8);
            }
            int distance = farBase(d) + number(farExtra(d));
            if (distance > result.made.size() || distance > farthest) {
                throw new Fault(9);
            }
            part("match " + length + " " + distance + " by " + s + " " + d);
            for (int i = 0; i < length; i++) {
                make(result.made.get(result.made.size() - distance));
            }
        }

        void made() throws Fault {
            int h = number(5);
            int d = number(5);
            if (h > 29 || d > 29) {
                throw new Fault(5);
            }
            int c = number(4);
            int[] lengths = new int[19];
            for (int i = 0; i < c + 4; i++) {
                lengths[ORDER[i]] = number(3);
            }
            part("h " + h + " d " + d + " c " + c);
            part("nineteen " + java.util.Arrays.toString(lengths));
            mustFit(lengths, false);
            int[] row = lengths(new Codes(lengths), h + 257 + d + 1);
            int[] symbols = java.util.Arrays.copyOfRange(row, 0, h + 257);
            int[] distances = java.util.Arrays.copyOfRange(row, h + 257, row.length);
            mustFit(symbols, false);
            mustFit(distances, true);
            if (symbols[256] == 0) {
                throw new Fault(7);
            }
            symbols(new Codes(symbols), new Codes(distances));
        }

        int[] lengths(Codes codes, int due) throws Fault {
            int[] row = new int[due];
            int n = 0;
            while (n < due) {
                int s = symbol(codes);
                int times = 1;
                int length = s;
                if (s == 16) {
                    if (n == 0) {
                        throw new Fault(6);
                    }
                    length = row[n - 1];
                    times = 3 + number(2);
                } else if (s > 16) {
                    length = 0;
                    times = s == 17 ? 3 + number(3) : 11 + number(7);
                }
                if (n + times > due) {
                    throw new Fault(6);
                }
                part("told " + s + (s < 16 ? "" : "+" + (times - (s == 18 ? 11 : 3))) + " from " + n);
                for (int i = 0; i < times; i++) {
                    row[n++] = length;
                }
            }
            return row;
        }

        static void mustFit(int[] lengths, boolean mayBeNone) throws Fault {
            double sum = 0;
            int codes = 0;
            for (int length : lengths) {
                if (length > 0) {
                    sum += 1.0 / (1 << length);
                    codes++;
                }
            }
            boolean fits = sum == 1 || codes == 1 && sum == 0.5 || codes == 0 && mayBeNone;
            if (!fits) {
                throw new Fault(7);
            }
        }
    }

    static Unpacked unpack(byte[] input) {
        Reader reader = new Reader(input);
        try {
            reader.all();
        } catch (Fault fault) {
            reader.result.fault = fault.number;
        }
        return reader.result;
    }
}
