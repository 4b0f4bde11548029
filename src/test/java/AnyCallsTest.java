import java.util.Random;

/** Whatever is called, with whatever arguments: nothing is thrown, and the sizes stay in their bounds. */
public final class AnyCallsTest {
    private static final int[] EDGES = {Integer.MIN_VALUE, -1, 0, 1, 2, 3, 7, 8, 9, 29, 30, 127, 128, 129, 255, 256, 285,
        286, 4096, 8191, 8192, 8193, 9000, Integer.MAX_VALUE};

    public static void main(String[] args) {
        Random random = new Random(51);
        for (int run = 0; run < 400; run++) {
            BlockPacker x = new BlockPacker();
            for (int i = 0; i < 512; i++) {
                try {
                    call(x, random);
                } catch (RuntimeException e) {
                    Due.holds("run " + run + ", call " + i + ": no " + e, false);
                    break;
                }
                Due.holds("the input's size", x.size(0) >= 0 && x.size(0) <= 8192);
                Due.holds("the output's size", x.size(1) >= 0 && x.size(1) <= 9000);
            }
        }
        Due.end();
    }

    private static int any(Random random) {
        int kind = random.nextInt(4);
        return kind == 0 ? random.nextInt() : kind == 1 ? random.nextInt(9001) : EDGES[random.nextInt(EDGES.length)];
    }

    private static void call(BlockPacker x, Random random) {
        switch (random.nextInt(13)) {
            case 0:
                x.feed(random.nextLong(), random.nextInt(11) - 1);
                break;
            case 1:
                x.fill(random.nextInt(6) - 1, any(random), any(random));
                break;
            case 2:
                x.set(any(random), any(random));
                break;
            case 3:
                x.cut(any(random));
                break;
            case 4:
                x.take();
                break;
            case 5:
                x.size(any(random));
                break;
            case 6:
                x.at(random.nextInt(4) - 1, any(random));
                break;
            case 7:
                x.pack(any(random), random.nextBoolean());
                break;
            case 8:
                x.unpack();
                break;
            case 9:
                x.read();
                break;
            case 10:
                x.told(any(random));
                break;
            case 11:
                x.length(random.nextInt(4) - 1, any(random));
                break;
            default:
                x.set(random.nextInt(64), random.nextInt());
                break;
        }
    }
}
