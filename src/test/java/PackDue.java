import java.util.Arrays;
import java.util.List;
import java.util.Random;
import java.util.zip.DataFormatException;
import java.util.zip.Inflater;

/** Rows to be packed, and what is due for them: for the tests that extend it. */
abstract class PackDue {
    /** All that pack() makes and tells is what the document's words make; what it makes can be unpacked. */
    static void whole(String name, byte[] input, int chain, boolean lazy) throws DataFormatException {
        String call = name + ", " + input.length + " bytes: pack(" + chain + ", " + lazy + ")";
        BlockPacker x = Rows.packerOf(input);
        Reference.Packed want = Reference.pack(input, chain, lazy);
        Due.same(call, x.pack(chain, lazy), want.bytes.length);
        Due.same(call + " made", Rows.content(x, 1), want.bytes);
        Due.same(call + " left the input", Rows.content(x, 0), input);
        for (int k = 0; k < 6; k++) {
            Due.same(call + " told(" + k + ")", x.told(k), want.told[k]);
        }
        for (int s = 0; s < 286; s++) {
            Due.same(call + " length(0, " + s + ")", x.length(0, s), want.symbolLengths[s]);
        }
        for (int d = 0; d < 30; d++) {
            Due.same(call + " length(1, " + d + ")", x.length(1, d), want.farLengths[d]);
        }
        Due.same(call + " inflated", inflated(want.bytes), input);
        if (want.bytes.length <= 8192) {
            x.take();
            Due.same(call + " unpack()", x.unpack(), input.length);
            Due.same(call + " unpacked", Rows.content(x, 1), input);
            Due.same(call + " read()", x.read(), 8L * want.bytes.length);
            Due.same(call + " told(6)", x.told(6), want.told[0]);
        }
    }

    static byte[] inflated(byte[] packed) throws DataFormatException {
        Inflater inflater = new Inflater();
        inflater.setInput(packed);
        byte[] bytes = new byte[10000];
        int n = inflater.inflate(bytes);
        Due.holds("the JDK's inflater comes to an end", inflater.finished() && inflater.getRemaining() == 0);
        inflater.end();
        return Arrays.copyOf(bytes, n);
    }

    static byte[] text(String text) {
        byte[] bytes = new byte[text.length()];
        for (int i = 0; i < bytes.length; i++) {
            bytes[i] = (byte) text.charAt(i);
        }
        return bytes;
    }

    static byte[] even(int size, long seed) {
        byte[] bytes = new byte[size];
        new Random(seed).nextBytes(bytes);
        return bytes;
    }

    static byte[] drawn(long seed) {
        Random random = new Random(seed);
        byte[] bytes = new byte[20 + random.nextInt(120)];
        int letters = 2 + random.nextInt(200);
        int draws = random.nextInt(3);
        for (int i = 0; i < bytes.length; i++) {
            int b = random.nextInt(letters);
            for (int k = 0; k < draws; k++) {
                b = Math.min(b, random.nextInt(letters));
            }
            bytes[i] = (byte) (b + (seed % 2 == 0 ? 0 : 100));
        }
        return bytes;
    }

    /** What pack() makes of these bytes, part by part in words. */
    static List<String> parts(byte[] input, int chain, boolean lazy) {
        BlockPacker x = Rows.packerOf(input);
        x.pack(chain, lazy);
        return Reference.unpack(Rows.content(x, 1)).parts;
    }

    /** The parts that begin with this word, without it, apart by blanks. */
    static String only(List<String> parts, String word) {
        StringBuilder all = new StringBuilder();
        for (String part : parts) {
            if (part.startsWith(word + " ")) {
                all.append(all.length() > 0 ? " " : "").append(part.substring(word.length() + 1));
            }
        }
        return all.toString();
    }

    /** The symbols that pack() makes: bytes as characters, a match as <length,distance>, a | before each block. */
    static String found(byte[] input, int chain, boolean lazy) {
        StringBuilder all = new StringBuilder();
        for (String part : parts(input, chain, lazy)) {
            String[] words = part.split(" ");
            if (words[0].equals("block")) {
                all.append('|');
            } else if (words[0].equals("byte")) {
                all.append((char) Integer.parseInt(words[1]));
            } else if (words[0].equals("match")) {
                all.append('<').append(words[1]).append(',').append(words[2]).append('>');
            }
        }
        return all.toString();
    }
}
