import java.io.ByteArrayOutputStream;

/** Writes a row bit by bit, right or wrong. */
final class Bits {
    private final ByteArrayOutputStream row = new ByteArrayOutputStream();
    private int last = 0;
    private int used = 0;
    private int count = 0;

    /** A row that begins with the bytes 120 and 156. */
    static Bits packed() {
        return new Bits().number(120, 8).number(156, 8);
    }

    int count() {
        return count;
    }

    Bits number(int value, int k) {
        for (int i = 0; i < k; i++) {
            bit(value >> i & 1);
        }
        return this;
    }

    Bits code(int value, int k) {
        for (int i = k - 1; i >= 0; i--) {
            bit(value >> i & 1);
        }
        return this;
    }

    Bits code(String bits) {
        for (char c : bits.toCharArray()) {
            bit(c - '0');
        }
        return this;
    }

    Bits start(int first, int kind) {
        return number(first, 1).number(kind, 2);
    }

    /** A symbol of a fixed block. */
    Bits fixed(int s) {
        if (s < 144) {
            return code(48 + s, 8);
        }
        if (s < 256) {
            return code(400 + s - 144, 9);
        }
        return s < 280 ? code(s - 256, 7) : code(192 + s - 280, 8);
    }

    /** The bits up to the end of a byte. */
    Bits pad(int bit) {
        while (used != 0) {
            bit(bit);
        }
        return this;
    }

    Bits stored(byte[] bytes) {
        pad(1).number(bytes.length, 16).number(65535 - bytes.length, 16);
        for (byte b : bytes) {
            number(b, 8);
        }
        return this;
    }

    /** The start of a made block up to the lengths of the 19, which are given by symbol. */
    Bits made(int first, int h, int d, int[] lengths) {
        start(first, 2).number(h, 5).number(d, 5).number(15, 4);
        for (int s : Reference.ORDER) {
            number(lengths[s], 3);
        }
        return this;
    }

    Bits check(byte[] bytes) {
        pad(0);
        int check = Reference.check(bytes);
        for (int shift = 24; shift >= 0; shift -= 8) {
            number(check >> shift, 8);
        }
        return this;
    }

    byte[] bytes() {
        ByteArrayOutputStream all = new ByteArrayOutputStream();
        all.writeBytes(row.toByteArray());
        if (used != 0) {
            all.write(last);
        }
        return all.toByteArray();
    }

    private void bit(int bit) {
        last |= bit << used;
        used++;
        count++;
        if (used == 8) {
            row.write(last);
            last = 0;
            used = 0;
        }
    }
}
