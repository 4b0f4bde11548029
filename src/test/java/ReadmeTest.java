import java.io.IOException;
import java.nio.file.Files;
import java.nio.file.Path;
import java.util.List;

/** The example of README.md answers what its comments say. */
public final class ReadmeTest {
    private static List<String> lines;
    private static int line;

    public static void main(String[] args) throws IOException {
        lines = Files.readAllLines(Path.of("README.md"));
        line = lines.indexOf("BlockPacker x = new BlockPacker();");
        Due.holds("the example is there", line >= 0);
        BlockPacker x = new BlockPacker();
        next("x.feed(0x636261L, 3);", x.feed(0x636261L, 3));
        next("x.fill(3, 0, 300);", x.fill(3, 0, 300));
        next("int packed = x.pack(16, true);", x.pack(16, true));
        next("x.take();", x.take());
        next("int made = x.unpack();", x.unpack());
        next("int first = x.at(1, 0);", x.at(1, 0));
        next("int bits = x.read();", x.read());
        next("x.set(13, 0);", x.set(13, 0));
        next("int fault = x.unpack();", x.unpack());
        Due.same("behind the example", lines.get(line + 1), "```");
        Due.end();
    }

    /** The next line is this call, and its comment begins with this answer. */
    private static void next(String call, int answer) {
        line++;
        String due = lines.get(line).replaceFirst(" +// ", " // ").replaceFirst(": .*", "");
        Due.same("line " + (line + 1) + " of README.md", due, call + " // " + answer);
    }
}
