/** Promises 14, 15 and 18, where they speak of boxes: read, at (COLOUR), unknown. */
public final class ReadBoxesTest {
    private static final Build STREAM = Build.head().end();

    public static void main(String[] args) {
        signature();
        brokenBoxes();
        headerBoxes();
        colours();
        unknownBoxes();
        streamBoxes();
        Check.finish();
    }

    private static Build inner(int... bytes) {
        return new Build().bytes(bytes);
    }

    private static Build header() {
        return Build.pictureHeader(8, 10, 2, 12);
    }

    private static Build colour(int method, int colour) {
        return new Build().box("colr", new Build().bytes(method, 0, 0).four(colour));
    }

    private static void due(String name, Build fed, int want) {
        Check.due(name, fed.fed().read(), want);
    }

    private static void signature() {
        due("nothing", new Build(), -1);
        due("255 alone", inner(255), -1);
        due("no signature", Build.fileType().box("jp2c", STREAM), -1);
        due("signature alone: the stream is missing", Build.signature(), -1 - 12);
        due("signature and stream", Build.signature().box("jp2c", STREAM), 0);
        due("signature cut", Build.signature().cut(11), -1);
        due("its length 0", Build.signature().alter(3, 0), -1);
        due("its length 13", Build.signature().alter(3, 13).bytes(0).box("jp2c", STREAM), -1);
        for (int i = 0; i < 12; i++) {
            Build fed = Build.signature().box("jp2c", STREAM);
            due("its byte " + i, fed.alter(i, fed.get(i) ^ 1), -1);
        }
    }

    private static void brokenBoxes() {
        Build start = Build.signature().add(Build.fileType());
        due("the stream is missing", new Build().add(start), -1 - 32);
        for (int n = 1; n < 8; n++) {
            due(n + " bytes of a box", new Build().add(start).bytes(0, 0, 0, 8, 65, 65, 65, 65).cut(32 + n), -33);
            due("length " + n, new Build().add(start).boxOfLength(n, "res ", inner(1, 2, 3)), -33);
            due("length of jp2c " + n, new Build().add(start).boxOfLength(n, "jp2c", STREAM), -33);
        }
        due("a box without bytes", new Build().add(start).box("res ", inner()).box("jp2c", STREAM), 0);
        due("a box beyond the end", new Build().add(start).boxOfLength(12, "res ", inner(1, 2, 3)), -33);
        due("a box far beyond it", new Build().add(start).boxOfLength(0xFFFFFFFFL, "res ", inner(1, 2)), -33);
        due("a box beyond it by its sign", new Build().add(start).boxOfLength(0x80000000L, "ftyp", inner()), -33);
        due("jp2h beyond it", new Build().add(start).boxOfLength(31, "jp2h", header()), -33);
        due("length 0: to the end", new Build().add(start).boxOfLength(0, "res ", inner(1, 2, 3)), -1 - 43);
        WaveFiles x = new Build().add(start).boxOfLength(0, "res ", inner(1, 2, 3)).fed();
        x.read();
        Check.due("and kept", x.unknown(0, -2), 3);
        due("two ftyp, one empty", new Build().add(start).box("ftyp", inner()).box("jp2c", STREAM), 0);
    }

    private static void headerBoxes() {
        Build start = Build.signature();
        due("a header", new Build().add(start).box("jp2h", header()).box("jp2c", STREAM), 0);
        due("two", new Build().add(start).box("jp2h", header()).box("jp2h", header()).box("jp2c", STREAM), 0);
        due("an empty one", new Build().add(start).box("jp2h", inner()).box("jp2c", STREAM), -1 - 20);
        due("an empty second one", new Build().add(start).box("jp2h", header()).box("jp2h", inner())
                .box("jp2c", STREAM), -1 - 12 - 30 - 8);
        due("its first is another", new Build().add(start).box("jp2h", colour(1, 16).add(header()))
                .box("jp2c", STREAM), -1 - 20);
        due("ihdr with 13 bytes", new Build().add(start).box("jp2h", new Build().box("ihdr", inner(new int[13])))
                .box("jp2c", STREAM), -1 - 20);
        due("ihdr with 15 bytes", new Build().add(start).box("jp2h", new Build().box("ihdr", inner(new int[15])))
                .box("jp2c", STREAM), -1 - 20);
        due("ihdr with any 14 bytes", new Build().add(start).box("jp2h", new Build().box("ihdr", inner(new int[14])))
                .box("jp2c", STREAM), 0);
        due("ihdr of length 0", new Build().add(start)
                .box("jp2h", new Build().boxOfLength(0, "ihdr", inner(new int[14]))).box("jp2c", STREAM), 0);
        due("a box that ends behind it", new Build().add(start)
                .box("jp2h", header().boxOfLength(9, "res ", inner())).box("jp2c", STREAM), -1 - 42);
        due("jp2c in it that ends behind it", new Build().add(start)
                .box("jp2h", header().boxOfLength(9, "jp2c", inner())).box("jp2c", STREAM), -1 - 42);
        due("seven bytes in it", new Build().add(start).box("jp2h", header().bytes(0, 0, 0, 8, 65, 65, 65))
                .box("jp2c", STREAM), -1 - 42);
        due("length 0 of it: to the end of all", new Build().add(start)
                .boxOfLength(0, "jp2h", header().box("jp2c", STREAM)), -1 - 12 - 8 - 22 - 8 - STREAM.size());
        due("length 0 in it: to its end", new Build().add(start)
                .box("jp2h", header().boxOfLength(0, "res ", inner(1, 2))).box("jp2c", STREAM), 0);
    }

    private static int colourOf(Build headerBoxes) {
        WaveFiles x = Build.signature().box("jp2h", headerBoxes).box("jp2c", STREAM).fed();
        Check.due("read", x.read(), 0);
        return x.at(11, 99, -99);
    }

    private static void colours() {
        Check.due("none", colourOf(header()), -1);
        Check.due("16", colourOf(header().add(colour(1, 16))), 16);
        Check.due("the latest", colourOf(header().add(colour(1, 16)).add(colour(1, 17)).add(colour(2, 18))), 17);
        Check.due("all four bytes", colourOf(header().add(colour(1, 0x01020304))), 0x01020304);
        Check.due("a sign", colourOf(header().add(colour(1, 0x80000000))), Integer.MIN_VALUE);
        Check.due("six bytes", colourOf(header().box("colr", inner(1, 0, 0, 0, 0, 9))), -1);
        Check.due("eight bytes", colourOf(header().box("colr", inner(1, 5, 6, 0, 0, 0, 9, 44))), 9);
        WaveFiles x = Build.signature().add(colour(1, 7)).box("jp2c", STREAM).fed();
        x.read();
        Check.due("not in jp2h", x.at(11, 0, 0), -1);
        Check.due("so it is unknown", x.told(6), 1);
        WaveFiles y = Build.signature().box("jp2h", header().add(colour(1, 7))).box("jp2h", header().add(colour(1, 8)))
                .box("jp2c", STREAM).fed();
        y.read();
        Check.due("of the later jp2h", y.at(11, 0, 0), 8);
        y.cut(0);
        STREAM.fedTo(y);
        y.read();
        Check.due("a stream alone tells none", y.at(11, 0, 0), -1);
    }

    private static void unknownBoxes() {
        Build inHeader = header().box("colr", inner(2)).box("ihdr", inner(new int[14])).box("jp2c", inner(9))
                .box("jp2h", inner(8, 7)).box("ftyp", inner()).add(colour(1, 3)).box("jP  ", inner());
        Build fed = Build.signature().box("res ", inner(1, 2, 255)).add(Build.signature()).box("jp2h", inHeader)
                .box("ihdr", inner(6)).four(9).bytes(255, 0, 1, 2, 3).box("jp2c", STREAM).box("xml ", inner(5))
                .bytes(1, 2, 3);
        WaveFiles x = fed.fed();
        Check.due("read", x.read(), 0);
        String[] kinds = {"res ", "jP  ", "colr", "ihdr", "jp2c", "jp2h", "ftyp", "jP  ", "ihdr"};
        int[] sizes = {3, 4, 1, 14, 1, 2, 0, 0, 1};
        Check.due("how many", x.told(6), kinds.length + 1);
        for (int k = 0; k < kinds.length; k++) {
            int box = k;
            Check.due("kind of " + k, x.unknown(k, -1), Build.kind(kinds[k]));
            Check.due("bytes of " + k, x.unknown(k, -2), sizes[k]);
            Check.dueIndex("behind the end of " + k, () -> x.unknown(box, sizes[box]));
            Check.dueIndex("what -3 of " + k, () -> x.unknown(box, -3));
        }
        Check.due("a kind of any bytes", x.unknown(9, -1), 0xFF000102);
        Check.due("its byte", x.unknown(9, 0), 3);
        Check.due("a byte", x.unknown(0, 2), 255);
        Check.due("a byte", x.unknown(5, 1), 7);
        Check.dueIndex("box -1", () -> x.unknown(-1, -1));
        Check.dueIndex("box 10", () -> x.unknown(10, -1));
        Check.dueIndex("the least what", () -> x.unknown(0, Integer.MIN_VALUE));
        Check.dueIndex("the greatest what", () -> x.unknown(0, Integer.MAX_VALUE));
        for (int i = 0; i < 60; i++) {
            x.alter(i, 0);
        }
        x.cut(3);
        Check.due("they are kept", x.unknown(0, -1), Build.kind("res "));
        Check.due("with their bytes", x.unknown(0, 2), 255);
        Check.due("a read that breaks at once", x.read(), -1);
        Check.due("meets none", x.told(6), 0);
        WaveFiles y = Build.signature().box("res ", inner(1)).box("jp2h", header().box("xml ", inner(4)))
                .boxOfLength(3, "uuid", inner()).fed();
        Check.due("a read that breaks later", y.read(), -1 - 12 - 9 - 39);
        Check.due("has met two", y.told(6), 2);
        Check.due("the second", y.unknown(1, 0), 4);
        Check.dueState("though nothing is read", () -> y.at(0, 0, 0));
    }

    private static void streamBoxes() {
        int from = 20;
        Build start = Build.signature();
        due("an empty stream", new Build().add(start).box("jp2c", inner()), -1 - from);
        due("not 255 79", new Build().add(start).box("jp2c", inner(255, 78)), -1 - from);
        due("255 79 reaches out of the box", new Build().add(start).box("jp2c", inner(255)).bytes(79), -1 - from);
        due("255 81 is missing", new Build().add(start).box("jp2c", inner(255, 79)), -1 - from - 2);
        due("cut", new Build().add(start).boxOfLength(99999, "jp2c", STREAM), 0);
        due("cut by its sign", new Build().add(start).boxOfLength(0xFFFFFFFFL, "jp2c", STREAM), 0);
        due("length 0", new Build().add(start).boxOfLength(0, "jp2c", STREAM), 0);
        int size = STREAM.size();
        due("too short by two: the end of the head is missing", new Build().add(start)
                .boxOfLength(8 + size - 2, "jp2c", STREAM), -1 - from - (size - 2));
        due("too short by one", new Build().add(start).boxOfLength(8 + size - 1, "jp2c", STREAM),
                -1 - from - (size - 2));
        due("the first one counts", new Build().add(start).box("jp2c", STREAM).box("jp2c", inner()), 0);
        due("the first one counts", new Build().add(start).box("jp2c", inner()).box("jp2c", STREAM), -1 - from);
        Build parts = Build.head().part(0, 0, new Build().lengths(2), 5, 6);
        WaveFiles x = new Build().add(start).box("jp2c", parts).part(1, 0, new Build()).fed();
        Check.due("behind the stream nothing is read", x.read(), 1);
        Check.due("its part stands in what was fed", x.part(0, 1), from + Build.head().size());
        WaveFiles y = new Build().add(start).boxOfLength(8 + parts.size() - 1, "jp2c", parts).fed();
        Check.due("a stream that ends before its part", y.read(), 1);
        Check.due("the part is cut", y.part(0, 5), 1);
        Check.due("no packet is whole", y.part(0, 3), 0);
    }
}
