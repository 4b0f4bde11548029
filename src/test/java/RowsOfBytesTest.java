/** Promises 1 to 8: a new object, feed, fill, set, cut, take, size and at. */
public final class RowsOfBytesTest {
    private static final int[] FAR_OFF = {Integer.MIN_VALUE, -8193, -1, 8192, 9000, Integer.MAX_VALUE};

    public static void main(String[] args) {
        newObject();
        feed();
        feedFull();
        fillSteady();
        fillMixed();
        fillAgain();
        fillWrong();
        set();
        cut();
        take();
        takeTooMany();
        sizeAndAt();
        Due.end();
    }

    private static void newObject() {
        BlockPacker x = new BlockPacker();
        Due.same("new: size(0)", x.size(0), 0);
        Due.same("new: size(1)", x.size(1), 0);
        Due.same("new: at(0, 0)", x.at(0, 0), BlockPacker.NONE);
        Due.same("new: at(1, 0)", x.at(1, 0), BlockPacker.NONE);
        Due.same("new: read()", x.read(), 0);
        for (int k = 0; k < 8; k++) {
            Due.same("new: told(" + k + ")", x.told(k), 0);
        }
        Due.same("new: length(0, 256)", x.length(0, 256), 0);
        Due.same("new: length(1, 0)", x.length(1, 0), 0);
        Due.same("new: take()", x.take(), 0);
        BlockPacker other = new BlockPacker();
        other.feed(5, 1);
        Due.same("another object's input", x.size(0), 0);
    }

    private static void feed() {
        BlockPacker x = new BlockPacker();
        Due.same("feed 8", x.feed(0x8877665544332211L, 8), 8);
        Due.same("feed 3 of 8", x.feed(0xFFFFFFFFFFFFFFFEL, 3), 11);
        Due.same("feed 1", x.feed(0x1234L, 1), 12);
        int[] want = {0x11, 0x22, 0x33, 0x44, 0x55, 0x66, 0x77, 0x88, 0xFE, 0xFF, 0xFF, 0x34};
        for (int i = 0; i < want.length; i++) {
            Due.same("fed byte " + i, x.at(0, i), want[i]);
        }
        for (int n : new int[] {Integer.MIN_VALUE, -1, 0, 9, Integer.MAX_VALUE}) {
            Due.same("feed(1, " + n + ")", x.feed(1, n), BlockPacker.BAD);
        }
        Due.same("size behind wrong feeds", x.size(0), 12);
    }

    private static void feedFull() {
        BlockPacker x = new BlockPacker();
        Due.same("fill 8185", x.fill(0, 1, 8185), 8185);
        Due.same("feed 8 without room", x.feed(-1L, 8), BlockPacker.FULL);
        Due.same("size behind it", x.size(0), 8185);
        Due.same("feed 7 with room", x.feed(-1L, 7), 8192);
        Due.same("last byte", x.at(0, 8191), 255);
        Due.same("feed 1 without room", x.feed(0, 1), BlockPacker.FULL);
        Due.same("feed 0 without room", x.feed(0, 0), BlockPacker.BAD);
        Due.same("feed 9 without room", x.feed(0, 9), BlockPacker.BAD);
    }

    private static void fillSteady() {
        BlockPacker x = new BlockPacker();
        Due.same("fill kind 0", x.fill(0, 0x1FE, 3), 3);
        Due.same("fill kind 0 again", x.fill(0, -1, 2), 5);
        int[] want = {0xFE, 0xFE, 0xFE, 0xFF, 0xFF};
        for (int i = 0; i < want.length; i++) {
            Due.same("kind 0 byte " + i, x.at(0, i), want[i]);
        }
    }

    private static void fillMixed() {
        for (int seed : new int[] {0, 1, 7, -5, Integer.MIN_VALUE, Integer.MAX_VALUE}) {
            BlockPacker x = new BlockPacker();
            Due.same("fill kind 1", x.fill(1, seed, 100), 100);
            Due.same("fill kind 2", x.fill(2, seed, 100), 200);
            long value = seed;
            for (int i = 0; i < 100; i++) {
                value = (int) (1103515245L * value + 12345L);
                Due.same("kind 1 byte " + i, x.at(0, i), value >> 16 & 255);
                Due.same("kind 2 byte " + i, x.at(0, 100 + i), 97 + (value >> 16 & 3));
            }
        }
    }

    private static void fillAgain() {
        BlockPacker x = new BlockPacker();
        x.feed(0x0504030201L, 5);
        Due.same("fill kind 3", x.fill(3, 2, 8), 13);
        int[] want = {1, 2, 3, 4, 5, 3, 4, 5, 3, 4, 5, 3, 4};
        for (int i = 0; i < want.length; i++) {
            Due.same("kind 3 byte " + i, x.at(0, i), want[i]);
        }
        Due.same("fill from the last place", x.fill(3, 12, 3), 16);
        Due.same("its byte", x.at(0, 15), 4);
        Due.same("fill from the first place", x.fill(3, 0, 8176), 8192);
        Due.same("its last byte", x.at(0, 8191), x.at(0, 8175));
    }

    private static void fillWrong() {
        BlockPacker x = new BlockPacker();
        Due.same("kind 3 of nothing", x.fill(3, 0, 1), BlockPacker.BAD);
        Due.same("kind 0 of all", x.fill(0, 9, 8192), 8192);
        Due.same("one more", x.fill(0, 9, 1), BlockPacker.FULL);
        Due.same("kind 3 without room", x.fill(3, 8191, 1), BlockPacker.FULL);
        Due.same("kind 3 wrong and without room", x.fill(3, 8192, 1), BlockPacker.BAD);
        Due.same("wrong n and without room", x.fill(0, 9, 8193), BlockPacker.BAD);
        x.cut(100);
        for (int bad : FAR_OFF) {
            Due.same("kind " + bad, x.fill(bad, 0, 1), BlockPacker.BAD);
            Due.same("kind 3 from " + bad, x.fill(3, bad, 1), BlockPacker.BAD);
            Due.same("n " + bad, x.fill(1, 0, bad == 8192 ? 0 : bad), BlockPacker.BAD);
        }
        Due.same("kind 4", x.fill(4, 0, 1), BlockPacker.BAD);
        Due.same("kind 3 from its size", x.fill(3, 100, 1), BlockPacker.BAD);
        Due.same("too many", x.fill(1, 0, 8093), BlockPacker.FULL);
        Due.same("too many by far", x.fill(2, 0, 8192), BlockPacker.FULL);
        Due.same("size behind wrong fills", x.size(0), 100);
        Due.same("just as many as have room", x.fill(2, 0, 8092), 8192);
    }

    private static void set() {
        BlockPacker x = new BlockPacker();
        Due.same("set of nothing", x.set(0, 1), BlockPacker.NONE);
        x.feed(0x00FF10L, 3);
        Due.same("set(0)", x.set(0, 0x1FF), 0x10);
        Due.same("set(0) again", x.set(0, -2), 0xFF);
        Due.same("set(1)", x.set(1, 7), 0xFF);
        Due.same("set(2)", x.set(2, 8), 0);
        Due.same("at(0, 0)", x.at(0, 0), 0xFE);
        Due.same("at(0, 1)", x.at(0, 1), 7);
        Due.same("at(0, 2)", x.at(0, 2), 8);
        Due.same("set behind the last", x.set(3, 1), BlockPacker.NONE);
        for (int bad : FAR_OFF) {
            Due.same("set(" + bad + ")", x.set(bad, 1), BlockPacker.NONE);
        }
        x.cut(1);
        Due.same("set of a byte that went", x.set(1, 1), BlockPacker.NONE);
        Due.same("size behind sets", x.size(0), 1);
    }

    private static void cut() {
        BlockPacker x = new BlockPacker();
        Due.same("cut of nothing", x.cut(0), 0);
        Due.same("cut(1) of nothing", x.cut(1), BlockPacker.BAD);
        x.feed(0x0504030201L, 5);
        Due.same("cut(6)", x.cut(6), BlockPacker.BAD);
        Due.same("cut(-1)", x.cut(-1), BlockPacker.BAD);
        for (int bad : FAR_OFF) {
            Due.same("cut(" + bad + ")", x.cut(bad), BlockPacker.BAD);
        }
        Due.same("cut(5)", x.cut(5), 0);
        Due.same("cut(2)", x.cut(2), 3);
        Due.same("size behind it", x.size(0), 2);
        Due.same("at(0, 1)", x.at(0, 1), 2);
        Due.same("at(0, 2)", x.at(0, 2), BlockPacker.NONE);
        x.feed(9, 1);
        Due.same("at(0, 2) fed anew", x.at(0, 2), 9);
        Due.same("cut(0)", x.cut(0), 3);
    }

    private static void take() {
        BlockPacker x = new BlockPacker();
        x.fill(0, 65, 20);
        int n = x.pack(8, false);
        byte[] output = Rows.content(x, 1);
        Due.same("take()", x.take(), n);
        Due.same("size(0)", x.size(0), n);
        Due.same("size(1)", x.size(1), n);
        Due.same("the input", Rows.content(x, 0), output);
        x.set(0, 1);
        Due.same("the output stays", Rows.content(x, 1), output);
        Due.same("take() again", x.take(), n);
        Due.same("the input again", Rows.content(x, 0), output);
    }

    private static void takeTooMany() {
        BlockPacker x = new BlockPacker();
        x.fill(1, 3, 8192);
        Due.same("pack of even bytes", x.pack(8, false), 8208);
        byte[] first = java.util.Arrays.copyOf(Rows.content(x, 1), 8192);
        Due.same("take() of more than have room", x.take(), 8192);
        Due.same("the first ones", Rows.content(x, 0), first);
        Due.same("size(1)", x.size(1), 8208);
    }

    private static void sizeAndAt() {
        BlockPacker x = new BlockPacker();
        x.feed(0x80FFL, 2);
        x.pack(0, false);
        Due.same("size(0)", x.size(0), 2);
        Due.same("size(1)", x.size(1), Rows.content(x, 1).length);
        Due.same("at(0, 0)", x.at(0, 0), 255);
        Due.same("at(0, 1)", x.at(0, 1), 128);
        Due.same("at(0, 2)", x.at(0, 2), BlockPacker.NONE);
        Due.same("at(1, 0)", x.at(1, 0), 120);
        Due.same("at(1, 1)", x.at(1, 1), 156);
        Due.same("at(1, size)", x.at(1, x.size(1)), BlockPacker.NONE);
        for (int bad : FAR_OFF) {
            Due.same("size(" + bad + ")", x.size(bad), BlockPacker.BAD);
            Due.same("at(" + bad + ", 0)", x.at(bad, 0), BlockPacker.NONE);
            Due.same("at(0, " + bad + ")", x.at(0, bad), BlockPacker.NONE);
            Due.same("at(1, " + bad + ")", x.at(1, bad), BlockPacker.NONE);
        }
        Due.same("size(2)", x.size(2), BlockPacker.BAD);
        Due.same("at(2, 0)", x.at(2, 0), BlockPacker.NONE);
    }
}
