import java.io.IOException;
import java.nio.file.Files;
import java.nio.file.Path;
import java.util.List;

/** The example of README.md: each of its lines stands here, with what is due behind it. */
public final class ReadmeTest {
    public static void main(String[] args) throws IOException {
        example();
        linesOfTheReadme();
        Check.finish();
    }

    private static void example() {
        WaveFiles x = new WaveFiles(64, 64);
        x.set(0, -1, -1, 128);
        Check.due("tiles", x.told(0), 2);
        x.set(6, 1, -1, 3);
        int part = x.tilePart(1);
        x.packet(part);
        x.byteOf(part, 200);
        int box = x.box(true, 0x72657320);
        x.boxByte(box, 7);

        int n = x.write();
        Check.due("byteAt(n - 3)", x.byteAt(n - 3), 200);
        x.pass(0, n);
        x.alter(n - 3, 9);
        int parts = x.read();
        Check.due("parts", parts, 1);
        int levels = x.at(6, 1, 0);
        Check.due("levels", levels, 3);
        int bytes = x.part(0, 2);
        Check.due("bytes", bytes, 1);
        int first = x.partByte(0, 0);
        Check.due("first", first, 9);
        int kind = x.unknown(0, -1);
        Check.due("kind", kind, 0x72657320);
        int fed = x.told(4);
        Check.due("fed", fed, n);
        x.clear();
        Check.due("nothing is fed", x.told(4), 0);
    }

    private static void linesOfTheReadme() throws IOException {
        String own = Files.readString(Path.of("src/test/java/ReadmeTest.java"));
        List<String> readme = Files.readAllLines(Path.of("README.md"));
        int from = readme.indexOf("```java") + 1;
        int lines = 0;
        for (int i = from; from > 0 && i < readme.size() && !readme.get(i).equals("```"); i++) {
            String call = readme.get(i).replaceAll("//.*", "").trim();
            Check.yes("in the test: " + call, own.contains("        " + call + "\n") || call.isEmpty());
            lines += call.isEmpty() ? 0 : 1;
        }
        Check.yes("the README has an example", lines > 10);
    }
}
