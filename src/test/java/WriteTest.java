/** Promises 8 and 9: write, byteAt. */
public final class WriteTest {
    public static void main(String[] args) {
        plainFile();
        fullFile();
        fourComponents();
        lengthsOfPackets();
        latestFile();
        greatestDepth();
        Check.finish();
    }

    private static void compare(String name, WaveFiles x, Build want) {
        Check.due(name + ": bytes", x.write(), want.size());
        Check.due(name + ": told", x.told(3), want.size());
        for (int i = 0; i < Math.min(want.size(), x.told(3)); i++) {
            Check.due(name + ": byte " + i, x.byteAt(i), want.get(i));
        }
        Check.dueIndex(name + ": behind the end", () -> x.byteAt(want.size()));
        Check.dueIndex(name + ": before it", () -> x.byteAt(-1));
    }

    private static void plainFile() {
        WaveFiles x = new WaveFiles(300, 7);
        Check.dueIndex("no file yet", () -> x.byteAt(0));
        Build stream = new Build().begin().sizes(300, 7, 300, 7, 8).style(0, 1, 5, 4, 1).step(8, 2).end();
        Build want = Build.signature().add(Build.fileType())
                .box("jp2h", Build.pictureHeader(7, 300, 1, 8)).box("jp2c", stream);
        compare("plain", x, want);
        compare("plain again", x, want);
    }

    private static void fullFile() {
        WaveFiles x = new WaveFiles(256, 100);
        x.set(0, -1, -1, 2000);
        x.set(1, -1, -1, 300);
        x.set(2, -1, -1, 3);
        x.set(3, -1, -1, 16);
        x.set(3, -1, 0, 3);
        x.set(3, -1, 1, 1);
        x.set(3, -1, 2, 7);
        x.set(5, -1, -1, 1000);
        x.set(9, -1, 2, 31);
        x.set(10, -1, 0, 7);
        x.set(8, -1, 1, 0);
        x.set(4, 23, -1, 4);
        x.set(5, 23, -1, 258);
        x.set(7, 23, 2, 6);
        x.set(7, 23, 0, 2);
        x.set(10, 23, -1, 0);
        x.set(9, 23, 1, 0);
        x.set(6, 5, -1, 0);
        x.tilePart(23);
        x.tilePart(1);
        x.tilePart(23);
        x.packet(0);
        x.byteOf(0, 200);
        x.packet(2);
        x.packet(2);
        x.byteOf(2, 1);
        x.byteOf(2, 2);
        x.box(false, Build.kind("xml "));
        x.box(true, Build.kind("res "));
        x.boxByte(1, 254);
        x.box(false, Build.kind("xml "));
        x.boxByte(2, 60);
        x.box(true, Build.kind("colr"));

        Build ofTile = new Build().style(4, 258, 5, 4, 1).styleOf(0, 5, 2, 1).styleOf(2, 5, 6, 1)
                .step(8, 0).stepOf(1, 0, 0).lengths(1);
        Build stream = new Build().begin().sizes(2000, 300, 256, 100, 3, 1, 7)
                .style(0, 1000, 5, 4, 1).styleOf(1, 5, 4, 0).step(8, 2).stepOf(0, 8, 7).stepOf(2, 31, 2)
                .part(23, 0, ofTile, 200).part(1, 0, new Build()).part(23, 1, new Build().lengths(0, 2), 1, 2).end();
        Build header = Build.pictureHeader(300, 2000, 3, 7).box("res ", new Build().bytes(254))
                .box("colr", new Build());
        Build want = Build.signature().add(Build.fileType()).box("jp2h", header)
                .box("xml ", new Build()).box("xml ", new Build().bytes(60)).box("jp2c", stream);
        compare("full", x, want);
    }

    private static void fourComponents() {
        WaveFiles x = new WaveFiles(9, 9);
        x.set(2, -1, -1, 4);
        Build styles = new Build().style(0, 1, 5, 4, 1);
        Build steps = new Build().step(8, 2);
        Build stylesOfTile = new Build().style(3, 1, 5, 4, 1);
        Build stepsOfTile = new Build().step(9, 2);
        x.set(4, 0, -1, 3);
        x.set(9, 0, -1, 9);
        for (int c = 3; c >= 0; c--) {
            x.set(6, -1, c, c);
            x.set(9, -1, c, 10 + c);
            x.set(7, 0, c, 2 + c);
            x.set(10, 0, c, 3 + c);
        }
        for (int c = 0; c < 4; c++) {
            styles.styleOf(c, c, 4, 1);
            steps.stepOf(c, 10 + c, 2);
            stylesOfTile.styleOf(c, 5, 2 + c, 1);
            stepsOfTile.stepOf(c, 9, 3 + c);
        }
        x.tilePart(0);
        Build stream = new Build().begin().sizes(9, 9, 9, 9, 8, 8, 8, 8).add(styles).add(steps)
                .part(0, 0, stylesOfTile.add(stepsOfTile)).end();
        compare("four components", x, Build.signature().add(Build.fileType())
                .box("jp2h", Build.pictureHeader(9, 9, 4, 8)).box("jp2c", stream));
    }

    private static void lengthsOfPackets() {
        int[] lengths = {127, 0, 128, 45};
        WaveFiles x = new WaveFiles(1, 1);
        x.tilePart(0);
        int[] data = new int[300];
        int sum = 0;
        for (int length : lengths) {
            x.packet(0);
            for (int i = 0; i < length; i++) {
                data[sum] = sum % 251;
                x.byteOf(0, data[sum]);
                sum++;
            }
        }
        Check.due("all", sum, 300);
        compare("lengths", x, inFile(new Build().part(0, 0, new Build().lengths(lengths), data)));
        WaveFiles y = new WaveFiles(1, 1);
        y.tilePart(0);
        y.packet(0);
        for (int i = 0; i < 300; i++) {
            y.byteOf(0, 7);
        }
        int[] sevens = new int[300];
        java.util.Arrays.fill(sevens, 7);
        Build head = new Build().bytes(255, 88, 0, 5, 0, 130, 44);
        compare("a length of 300", y, inFile(new Build().part(0, 0, head, sevens)));
    }

    private static Build inFile(Build parts) {
        Build stream = new Build().begin().sizes(1, 1, 1, 1, 8).style(0, 1, 5, 4, 1).step(8, 2).add(parts).end();
        return Build.signature().add(Build.fileType())
                .box("jp2h", Build.pictureHeader(1, 1, 1, 8)).box("jp2c", stream);
    }

    private static void latestFile() {
        WaveFiles x = new WaveFiles(1, 1);
        int n = x.write();
        x.set(3, -1, -1, 16);
        x.tilePart(0);
        Check.due("the file stays till it is written again", x.told(3), n);
        Check.due("its depth too", x.byteAt(58), 7);
        Check.due("a part more", x.write(), n + 14);
        Check.due("the new depth", x.byteAt(58), 15);
        x.set(6, 0, 0, 0);
        Check.due("a segment more", x.write(), n + 14 + 11);
    }

    /** Of the components that are there, and no others; it may stand anywhere among them. */
    private static void greatestDepth() {
        for (int components = 1; components <= 4; components++) {
            for (int greatest = 0; greatest < components; greatest++) {
                WaveFiles x = new WaveFiles(1, 1);
                x.set(3, -1, -1, 16);
                x.set(2, -1, -1, components);
                for (int c = 0; c < components; c++) {
                    x.set(3, -1, c, 1);
                }
                x.write();
                Check.due("all depths 1", x.byteAt(58), 0);
                x.set(3, -1, greatest, 2);
                x.write();
                Check.due("one depth 2", x.byteAt(58), 1);
            }
        }
    }
}
