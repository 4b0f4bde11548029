import java.util.Arrays;
import java.util.Random;

/** Promises 9 to 13: what is told is of the latest pack() and the latest unpack(), whatever the object did before. */
public final class UsedAgainTest {
    private static final int RUNS = 150, CALLS = 24;

    private final BlockPacker x = new BlockPacker();
    private final Random random;
    private byte[] input = new byte[0];
    private byte[] output = new byte[0];
    private Reference.Packed packed = null;
    private Reference.Unpacked unpacked = null;

    private UsedAgainTest(long seed) {
        random = new Random(seed);
    }

    public static void main(String[] args) {
        Due.sentence("10 to 13", "the latest pack(); the latest unpack()");
        for (long seed = 0; seed < RUNS; seed++) {
            UsedAgainTest run = new UsedAgainTest(seed);
            run.all("run " + seed + ", at first");
            for (int i = 0; i < CALLS; i++) {
                run.call("run " + seed + ", call " + i);
            }
        }
        Due.end();
    }

    private void call(String name) {
        int kind = random.nextInt(8);
        if (kind < 2) {
            give(Rows.made(random, random.nextInt(random.nextInt(4) == 0 ? 8193 : 700)));
        } else if (kind == 2 && input.length > 0) {
            spoil();
        } else if (kind == 3) {
            Due.same(name + ": take()", x.take(), Math.min(output.length, 8192));
            input = Arrays.copyOf(output, Math.min(output.length, 8192));
        } else if (kind == 4) {
            Due.same(name + ": pack(129, true)", x.pack(129, true), BlockPacker.BAD);
        } else if (kind == 5) {
            pack(name);
        } else if (kind == 6) {
            unpack(name);
        } else {
            pack(name);
            give(output.length > 8192 ? Arrays.copyOf(output, 8192) : output);
            unpack(name);
        }
        all(name);
    }

    private void give(byte[] bytes) {
        Rows.give(x, bytes);
        input = bytes.clone();
    }

    private void spoil() {
        int i = random.nextInt(Math.min(input.length, random.nextInt(2) == 0 ? 80 : 8192));
        int b = random.nextInt(256);
        x.set(i, b);
        input[i] = (byte) b;
    }

    private void pack(String name) {
        int chain = random.nextInt(129);
        boolean lazy = random.nextBoolean();
        packed = Reference.pack(input, chain, lazy);
        output = packed.bytes;
        Due.same(name + ": pack(" + chain + ", " + lazy + ")", x.pack(chain, lazy), output.length);
    }

    private void unpack(String name) {
        unpacked = Reference.unpack(input);
        output = unpacked.bytes();
        Due.same(name + ": unpack()", x.unpack(), unpacked.answer());
    }

    /** All that the object tells is what the latest calls of each kind left; 0 before there was one. */
    private void all(String name) {
        Due.same(name + ": the input", Rows.content(x, 0), input);
        Due.same(name + ": the output", Rows.content(x, 1), output);
        for (int k = 0; k < 6; k++) {
            Due.same(name + ": told(" + k + ")", x.told(k), packed == null ? 0 : packed.told[k]);
        }
        Due.same(name + ": told(6)", x.told(6), unpacked == null ? 0 : unpacked.blocks);
        Due.same(name + ": told(7)", x.told(7), unpacked == null ? 0 : unpacked.matches);
        Due.same(name + ": read()", x.read(), unpacked == null ? 0 : unpacked.read);
        for (int s = 0; s < 286; s++) {
            Due.same(name + ": length(0, " + s + ")", x.length(0, s), packed == null ? 0 : packed.symbolLengths[s]);
        }
        for (int d = 0; d < 30; d++) {
            Due.same(name + ": length(1, " + d + ")", x.length(1, d), packed == null ? 0 : packed.farLengths[d]);
        }
    }
}
