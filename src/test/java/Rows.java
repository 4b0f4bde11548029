import java.util.Random;

/** Brings rows of bytes into a BlockPacker and out of it, and makes rows for tests. */
final class Rows {
    private Rows() {
    }

    static BlockPacker packerOf(byte[] bytes) {
        BlockPacker packer = new BlockPacker();
        give(packer, bytes);
        return packer;
    }

    /** Makes the input these bytes. */
    static void give(BlockPacker packer, byte[] bytes) {
        packer.cut(0);
        for (int i = 0; i < bytes.length; i += 8) {
            int n = Math.min(8, bytes.length - i);
            long eight = 0;
            for (int k = 0; k < n; k++) {
                eight |= (bytes[i + k] & 255L) << 8 * k;
            }
            packer.feed(eight, n);
        }
    }

    static byte[] content(BlockPacker packer, int which) {
        byte[] bytes = new byte[packer.size(which)];
        for (int i = 0; i < bytes.length; i++) {
            bytes[i] = (byte) packer.at(which, i);
        }
        return bytes;
    }

    /** Bytes of which no three in a row come twice. */
    static byte[] unlike(int size, long seed) {
        Random random = new Random(seed);
        byte[] bytes = new byte[size];
        boolean[] seen = new boolean[1 << 24];
        int three = 0;
        for (int i = 0; i < size; i++) {
            int b = random.nextInt(256);
            while (i >= 2 && seen[(three << 8 | b) & 0xFFFFFF]) {
                b = random.nextInt(256);
            }
            bytes[i] = (byte) b;
            three = (three << 8 | b) & 0xFFFFFF;
            seen[three] |= i >= 2;
        }
        return bytes;
    }

    /** Rows of many kinds: even bytes, few letters, runs, repetitions from far and near, rare bytes. */
    static byte[] made(Random random, int size) {
        byte[] bytes = new byte[size];
        int kind = random.nextInt(7);
        int letters = 1 + random.nextInt(kind == 1 ? 4 : 40);
        int i = 0;
        while (i < size) {
            int n = Math.min(size - i, 1 + random.nextInt(kind == 5 ? 600 : 30));
            boolean repeats = i > 0 && kind >= 2 && random.nextInt(3) > 0;
            int from = repeats ? i - 1 - random.nextInt(kind == 3 ? Math.min(i, 8) : i) : 0;
            int run = random.nextInt(256);
            for (int k = 0; k < n; k++, i++) {
                if (repeats) {
                    bytes[i] = bytes[from + k];
                } else if (kind == 0) {
                    bytes[i] = (byte) random.nextInt(256);
                } else if (kind == 4) {
                    bytes[i] = (byte) run;
                } else if (kind == 6) {
                    bytes[i] = (byte) Integer.numberOfTrailingZeros(random.nextInt() | 1 << 20);
                } else {
                    bytes[i] = (byte) (97 + random.nextInt(letters));
                }
            }
        }
        return bytes;
    }
}
