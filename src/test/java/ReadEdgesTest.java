/**
 * Promises 14 to 18 at the edges that READING names for boxes and the stream's head, each sentence by itself: what just
 * fits, what is one too short or too long, what is not there at all, and what the next read() finds.
 */
public final class ReadEdgesTest extends Reading {
    private static final Build STREAM = Build.head().end();

    public static void main(String[] args) {
        streamAlone();
        boxesThatAreLeftTooShort();
        boxesInTheHeader();
        boxesThatEndBehind();
        headerBegins();
        coloursThatAreTold();
        streamBoxes();
        brokenEndsItAll();
        lengthsOfSegments();
        numbersOfSegments();
        componentsOfSegments();
        sizesAndTheirComponents();
        sizesThatEndTooSoon();
        tilesOfSizes();
        bytesThatAreNot255();
        codesPassedOver();
        styleAndStepForAll();
        readAgain();
        Check.finish();
    }

    private static Build pictureHeader() {
        return Build.pictureHeader(8, 10, 2, 12);
    }

    /** "If it begins with 255 79 it is a STREAM alone. Else boxes: the first one must be jP". */
    private static void streamAlone() {
        read("nothing", inner(), -1);
        read("255", inner(255), -1);
        read("79", inner(79), -1);
        read("79 255", inner(79, 255), -1);
        read("255 79", inner(255, 79), -3);
        read("255 79 255", inner(255, 79, 255), -3);
        read("254 79", new Build().add(STREAM).alter(0, 254), -1);
        read("255 80", new Build().add(STREAM).alter(1, 80), -1);
        read("a stream", STREAM, 0);
        read("a stream behind a byte", inner(0).add(STREAM), -1);
    }

    /** "BROKEN if fewer than eight bytes are left for its beginning, its length is 1 .. 7". */
    private static void boxesThatAreLeftTooShort() {
        for (int left = 0; left <= 8; left++) {
            Build fed = Build.signature().box("res ", NONE).bytes(0, 0, 0, 8, 'x', 'm', 'l', ' ').cut(20 + left);
            int place = left == 8 ? 28 : 20;
            WaveFiles x = read(left + " bytes are left", fed, -1 - place);
            Check.due(left + " bytes are left: unknown", x.told(6), left == 8 ? 2 : 1);
        }
        for (int length = 0; length <= 9; length++) {
            WaveFiles x = Build.signature().boxOfLength(length, "xml ", inner(5)).box("jp2c", STREAM).fed();
            String name = "length " + length;
            if (length == 0) {
                Check.due(name + ": to the end", x.read(), -1 - x.told(4));
                Check.due(name + ": its bytes", x.unknown(0, -2), 9 + STREAM.size());
            } else if (length < 8) {
                Check.due(name + ": broken", x.read(), -13);
                Check.due(name + ": not kept", x.told(6), 0);
            } else if (length == 8) {
                Check.due(name + ": the next begins with its byte", x.read(), -21);
                Check.due(name + ": kept", x.unknown(0, -2), 0);
            } else {
                Check.due(name + ": as it should be", x.read(), 0);
                Check.due(name + ": kept", x.unknown(0, 0), 5);
            }
        }
    }

    /** The same in jp2h, whose end is the end for its boxes. */
    private static void boxesInTheHeader() {
        int place = 12 + 8 + 22;
        for (int left = 0; left <= 8; left++) {
            Build boxes = pictureHeader().bytes(0, 0, 0, 8, 'x', 'm', 'l', ' ').cut(22 + left);
            Build fed = Build.signature().box("jp2h", boxes).box("jp2c", STREAM);
            read(left + " bytes are left in jp2h", fed, left == 0 || left == 8 ? 0 : -1 - place);
        }
        for (int length = 0; length <= 10; length++) {
            Build boxes = pictureHeader().boxOfLength(length, "xml ", inner(5));
            WaveFiles x = Build.signature().box("jp2h", boxes).box("jp2c", STREAM).fed();
            int want = length == 0 || length == 9 ? 0 : length == 8 ? -1 - place - 8 : -1 - place;
            Check.due("length " + length + " in jp2h", x.read(), want);
            boolean isKept = length == 0 || length == 8 || length == 9;
            Check.due("length " + length + " in jp2h: kept", x.told(6), isKept ? 1 : 0);
        }
        WaveFiles x = read("length 0 in jp2h", Build.signature().box("jp2h", pictureHeader()
                .boxOfLength(0, "xml ", inner(5, 6))).box("res ", inner(7)).box("jp2c", STREAM), 0);
        Check.due("goes to the end of jp2h", x.unknown(0, -2), 2);
        Check.due("the next is behind it", x.unknown(1, 0), 7);
    }

    /** "or it ends behind what it is in (jp2c, not in jp2h, may: it is CUT, and ends there)". */
    private static void boxesThatEndBehind() {
        for (String kind : new String[] {"res ", "ftyp", "jP  ", "ihdr"}) {
            read(kind + " ends at the end", Build.signature().boxOfLength(11, kind, inner(1, 2, 3)), -1 - 23);
            read(kind + " ends behind it", Build.signature().boxOfLength(12, kind, inner(1, 2, 3)), -13);
        }
        read("jp2h ends at the end", Build.signature().boxOfLength(30, "jp2h", pictureHeader()), -1 - 42);
        read("jp2h ends behind it", Build.signature().boxOfLength(31, "jp2h", pictureHeader()), -13);
        read("jp2c ends at the end", Build.signature().boxOfLength(8 + STREAM.size(), "jp2c", STREAM), 0);
        read("jp2c ends behind it", Build.signature().boxOfLength(9 + STREAM.size(), "jp2c", STREAM), 0);
        Build cutStream = Build.head().part(0, 0, lengths(2, 3), 1, 2, 3, 4, 5);
        WaveFiles x = read("jp2c is cut", Build.signature().box("jp2c", cutStream).cut(20 + cutStream.size() - 1), 1);
        duePart("jp2c is cut", x, 0, 0, 20 + HEAD, 2, 1, 0, 1);
        for (int more = 0; more <= 1; more++) {
            Build boxes = pictureHeader().boxOfLength(9 + more, "jp2c", inner(1));
            read("jp2c in jp2h, " + more + " behind it", Build.signature().box("jp2h", boxes).box("jp2c", STREAM),
                    more == 0 ? 0 : -1 - 42);
        }
    }

    /** "Each jp2h is read as boxes; its first one must be ihdr with 14 bytes." */
    private static void headerBegins() {
        for (int bytes = 0; bytes <= 20; bytes++) {
            Build boxes = new Build().box("ihdr", inner(new int[bytes]));
            read("ihdr with " + bytes, Build.signature().box("jp2h", boxes).box("jp2c", STREAM), bytes == 14 ? 0 : -21);
            read("a second jp2h, ihdr with " + bytes, Build.signature().box("jp2h", pictureHeader()).box("jp2h", boxes)
                    .box("jp2c", STREAM), bytes == 14 ? 0 : -1 - 12 - 30 - 8);
        }
        read("another kind with 14", Build.signature().box("jp2h", new Build().box("ihds", inner(new int[14])))
                .box("jp2c", STREAM), -21);
        read("jp2h without a box", Build.signature().box("jp2h", NONE).box("jp2c", STREAM), -21);
        read("no jp2h", Build.signature().box("jp2c", STREAM), 0);
        WaveFiles x = read("a second ihdr", Build.signature().box("jp2h", pictureHeader().box("ihdr", inner(3)))
                .box("jp2c", STREAM), 0);
        Check.due("is unknown", x.unknown(0, 0), 3);
    }

    /** "colr in it with 7 bytes or more, the first of which is 1, tells the COLOUR: a number in bytes 3 to 6". */
    private static void coloursThatAreTold() {
        for (int bytes = 0; bytes <= 9; bytes++) {
            for (int first = 0; first <= 2; first++) {
                int[] given = {first, 91, 92, 1, 2, 3, 4, 93, 94};
                Build colour = new Build().box("colr", inner(java.util.Arrays.copyOf(given, bytes)));
                WaveFiles x = read("colr", Build.signature().box("jp2h", pictureHeader().add(colour))
                        .box("jp2c", STREAM), 0);
                boolean tells = bytes >= 7 && first == 1;
                String name = "colr with " + bytes + ", the first " + first;
                Check.due(name, x.at(11, 0, 0), tells ? 0x01020304 : -1);
                Check.due(name + ": unknown", x.told(6), tells ? 0 : 1);
            }
        }
        Build good = new Build().box("colr", inner(1, 0, 0, 0, 0, 0, 17));
        WaveFiles x = read("one that tells none behind it", Build.signature().box("jp2h", pictureHeader().add(good)
                .box("colr", inner(1, 0, 0, 0, 0, 9)).box("colr", inner(0, 0, 0, 0, 0, 0, 8))).box("jp2c", STREAM), 0);
        Check.due("it counts still", x.at(11, 0, 0), 17);
        Check.due("the others are unknown", x.told(6), 2);
        WaveFiles y = read("not in jp2h", Build.signature().add(good).box("jp2c", STREAM), 0);
        Check.due("it tells none", y.at(11, 0, 0), -1);
        Check.due("it is unknown", y.unknown(0, 6), 17);
    }

    /** "ftyp is passed over, the first jp2c has the STREAM, and behind it nothing is read; there must be one". */
    private static void streamBoxes() {
        read("none, without another box", Build.signature(), -13);
        read("none, with ftyp", Build.signature().add(Build.fileType()), -33);
        read("none, with jp2h", Build.signature().box("jp2h", pictureHeader()), -43);
        read("one in jp2h is none", Build.signature().box("jp2h", pictureHeader().box("jp2c", STREAM)),
                -1 - 12 - 30 - 8 - STREAM.size());
        WaveFiles x = read("what stands behind it", Build.signature().box("ftyp", NONE).box("jp2c", STREAM)
                .box("res ", inner(1)).box("jp2h", NONE).bytes(0, 0, 0, 1), 0);
        Check.due("is not met", x.told(6), 0);
        WaveFiles y = read("a second jP", Build.signature().add(Build.signature()).box("jP  ", NONE)
                .box("jp2c", STREAM), 0);
        Check.due("is unknown", y.told(6), 2);
        Check.due("with its bytes", y.unknown(0, 2), 135);
        Check.due("or without any", y.unknown(1, -2), 0);
        read("an empty one", Build.signature().box("jp2c", NONE), -21);
        read("an empty one of length 0", Build.signature().boxOfLength(0, "jp2c", NONE), -21);
    }

    /** "What is BROKEN so far, or missing, ends it all: its place is told .. and nothing is READ." */
    private static void brokenEndsItAll() {
        Build parts = Build.head().part(0, 0, lengths(1), 5).end();
        Build broken = Build.head().bytes(255, 100).two(1).part(0, 0, lengths(1), 5).end();
        WaveFiles x = read("as it should be", Build.signature().box("res ", inner(4)).box("jp2c", parts), 1);
        x.cut(0);
        Build.signature().box("xml ", inner(6, 7)).box("uuid", NONE).box("jp2c", broken).fedTo(x);
        Check.due("broken in the head", x.read(), -1 - 12 - 10 - 8 - 8 - HEAD);
        Check.dueState("at", () -> x.at(0, 0, 0));
        Check.dueState("COLOUR", () -> x.at(11, 0, 0));
        Check.dueState("part", () -> x.part(0, 0));
        Check.dueState("partByte", () -> x.partByte(0, 0));
        Check.due("no parts", x.told(5), 0);
        Check.due("no spoilt ones", x.told(7), 0);
        Check.due("no packets", x.told(8), 0);
        Check.due("the boxes that were met", x.told(6), 2);
        Check.due("whatever it answered: kind", x.unknown(0, -1), Build.kind("xml "));
        Check.due("whatever it answered: bytes", x.unknown(0, -2), 2);
        Check.due("whatever it answered: a byte", x.unknown(0, 1), 7);
        Check.due("whatever it answered: no bytes", x.unknown(1, -2), 0);
        Check.dueIndex("a byte of none", () -> x.unknown(1, 0));
        Check.dueIndex("a third one", () -> x.unknown(2, -1));
    }

    /** "BROKEN .. if it has another length than told above". */
    private static void lengthsOfSegments() {
        Build[] right = {new Build().style(0, 1, 5, 4, 1), new Build().styleOf(1, 5, 4, 1), new Build().step(8, 2),
            new Build().stepOf(1, 8, 2)};
        for (Build segment : right) {
            int code = segment.get(1);
            int length = segment.get(3);
            read(code + " as it should be", Build.head().add(segment).end(), 0);
            read(code + " without a byte", Build.head().bytes(255, code).two(2).end(), -1 - HEAD);
            read(code + " one too short", Build.head().add(segment).cut(HEAD + 1 + length).alter(HEAD + 3, length - 1)
                    .end(), -1 - HEAD);
            read(code + " one too long", Build.head().add(segment).bytes(0).alter(HEAD + 3, length + 1).end(),
                    -1 - HEAD);
            read(code + " 256 too long", Build.head().add(segment).bytes(new int[256]).alter(HEAD + 2, 1).end(),
                    -1 - HEAD);
            read(code + " not all there", Build.head().add(segment).cut(HEAD + 1 + length), -1 - HEAD);
            read(code + " all there, and no more", Build.head().add(segment), -1 - HEAD - 2 - length);
        }
    }

    /** "or numbers that are not as above": each number at its bounds, and beyond them, for all and in a part. */
    private static void numbersOfSegments() {
        int[] styleAt = {5, 9, 13};
        int[] greatest = {4, 5, 1};
        for (int i = 0; i < styleAt.length; i++) {
            for (int v : new int[] {0, greatest[i], greatest[i] + 1, 255}) {
                Build style = new Build().style(0, 1, 5, 4, 1).alter(styleAt[i], v);
                dueSegment("byte " + styleAt[i] + " of a style is " + v, style, v <= greatest[i]);
            }
        }
        for (int v : new int[] {0, 1, 1000, 1001, 65535}) {
            dueSegment("layers " + v, new Build().style(0, v, 5, 4, 1), v >= 1 && v <= 1000);
        }
        for (int v : new int[] {0, 4, 5, 255}) {
            dueSegment("block of a style " + v, new Build().style(0, 1, 5, 2 + v, 1), v <= 4);
            dueSegment("block of a component " + v, new Build().styleOf(1, 5, 2 + v, 1), v <= 4);
        }
        for (int v : new int[] {0, 5, 6, 255}) {
            dueSegment("levels of a component " + v, new Build().styleOf(1, v, 4, 1), v <= 5);
        }
        for (int v : new int[] {0, 1, 2, 255}) {
            dueSegment("waves of a component " + v, new Build().styleOf(1, 5, 4, v), v <= 1);
        }
        for (int guard = 0; guard <= 255; guard++) {
            dueSegment("guard byte " + guard, new Build().step(8, 2).alter(4, guard), guard % 32 == 1);
        }
        for (int exponent : new int[] {0, 1, 2047, 2048, 2049, 63487, 63488, 63489, 65535}) {
            Build step = new Build().step(0, 2).alter(5, exponent >> 8).alter(6, exponent & 255);
            dueSegment("exponent bytes " + exponent, step, exponent % 2048 == 0);
        }
    }

    private static void dueSegment(String name, Build segment, boolean isFine) {
        read(name, Build.head().add(segment).end(), isFine ? 0 : -1 - HEAD);
        WaveFiles x = read(name + " in a part", Build.head().part(0, 0, segment).end(), 1);
        Check.due(name + " in a part: spoilt", x.part(0, 4), isFine ? 0 : 1);
    }

    /** "a component that is none". */
    private static void componentsOfSegments() {
        int[][] depths = {{8}, {8, 8}, {8, 8, 8}, {8, 8, 8, 8}};
        for (int[] depth : depths) {
            Build head = new Build().begin().sizes(1, 1, 1, 1, depth).style(0, 1, 5, 4, 1).step(8, 2);
            for (int c : new int[] {0, depth.length - 1, depth.length, 4, 255}) {
                Build[] segments = {new Build().styleOf(c, 5, 4, 1), new Build().stepOf(c, 8, 2)};
                for (Build segment : segments) {
                    boolean isThere = c < depth.length;
                    String name = "component " + c + " of " + depth.length;
                    read(name, new Build().add(head).add(segment).end(), isThere ? 0 : -1 - head.size());
                    WaveFiles x = read(name, new Build().add(head).part(0, 0, segment), 1);
                    Check.due(name + " in a part", x.part(0, 4), isThere ? 0 : 1);
                }
            }
        }
    }

    /** "2: 38 + 3 COMPONENTS", "2: COMPONENTS, for each DEPTH - 1, 1, 1". */
    private static void sizesAndTheirComponents() {
        Build rest = new Build().style(0, 1, 5, 4, 1).step(8, 2).end();
        int[][] depths = {{}, {1}, {16, 1}, {1, 16, 8}, {9, 9, 9, 16}, {8, 8, 8, 8, 8}};
        for (int[] depth : depths) {
            boolean isFine = depth.length >= 1 && depth.length <= 4;
            Build sizes = new Build().begin().sizes(1, 1, 1, 1, depth);
            String name = depth.length + " components";
            WaveFiles x = read(name, new Build().add(sizes).add(rest), isFine ? 0 : -3);
            for (int c = 0; isFine && c < depth.length; c++) {
                int component = c;
                Check.due(name + ": depth of " + c, x.at(3, 0, c), depth[c]);
                read(name + ": depth 17", new Build().add(sizes).alter(42 + 3 * c, 16).add(rest), -3);
                read(name + ": depth 256", new Build().add(sizes).alter(42 + 3 * c, 255).add(rest), -3);
                for (int v : new int[] {0, 2}) {
                    read(name + ": no 1", new Build().add(sizes).alter(43 + 3 * c, v).add(rest), -3);
                    read(name + ": no 1", new Build().add(sizes).alter(44 + 3 * c, v).add(rest), -3);
                }
                Check.dueIndex(name + ": depth of another", () -> x.at(3, 0, component + depth.length));
            }
            for (int more : new int[] {-3, -1, 1, 3}) {
                Build fed = new Build().add(sizes).bytes(1, 1, 1).add(rest);
                read(name + ": length " + more, fed.alter(5, 38 + 3 * depth.length + more), -3);
                read(name + ": number " + more, new Build().add(sizes).add(rest).alter(41, depth.length + more & 255),
                        -3);
            }
            read(name + ": number 256 more", new Build().add(sizes).add(rest).alter(40, 1), -3);
        }
    }

    /** A 255 81 that is all there, but ends before the numbers that it should have; nothing was fed before it. */
    private static void sizesThatEndTooSoon() {
        for (int length = 0; length <= 40; length++) {
            Build short81 = inner(255, 79, 255, 81, 0, length).bytes(new int[Math.max(0, length - 2)]);
            read("sizes of length " + length + ", and no more", short81, -3);
            read("sizes of length " + length + ", and more", short81.style(0, 1, 5, 4, 1).step(8, 2).end(), -3);
        }
        // Wherever the end of all is, nothing behind it may be asked for.
        for (int before = 0; before <= 300; before++) {
            Build stream = inner(255, 79, 255, 81, 0, 36).bytes(new int[34]);
            read("sizes behind " + before + " bytes", Build.signature().box("res ", inner(new int[before]))
                    .box("jp2c", stream), -1 - 12 - 8 - before - 8 - 2);
        }
    }

    /** "sizes beyond the bounds, the tile's too, 1 .. 65536, or more than 24 TILES". */
    private static void tilesOfSizes() {
        long[] picture = {0, 1, 2000, 2001, 65536, 0x7FFFFFFFL, 0x80000000L, 0xFFFFFFFFL};
        for (long v : picture) {
            boolean isFine = v >= 1 && v <= 2000;
            dueSizes("width " + v, v, 1, 2000, 1, isFine);
            dueSizes("height " + v, 1, v, 1, 2000, isFine);
        }
        long[] tile = {0, 1, 2000, 2001, 65535, 65536, 65537, 0x7FFFFFFFL, 0x80000000L, 0xFFFFFFFFL};
        for (long v : tile) {
            boolean isFine = v >= 1 && v <= 65536;
            dueSizes("the tile's width " + v, 20, 1, v, 1, isFine);
            dueSizes("the tile's height " + v, 1, 20, 1, v, isFine);
        }
        int[][] tiles = {{23, 1}, {24, 1}, {25, 1}, {1, 24}, {1, 25}, {4, 6}, {6, 4}, {5, 5}, {7, 4}, {12, 2}, {2, 13}};
        for (int[] many : tiles) {
            boolean isFine = many[0] * many[1] <= 24;
            String name = many[0] + " x " + many[1] + " tiles";
            dueSizes(name, 7 * many[0], 3 * many[1], 7, 3, isFine);
            dueSizes(name + ", the last ones smaller", 7 * many[0] - 6, 3 * many[1] - 2, 7, 3, isFine);
        }
        dueSizes("65536 would wrap around", 2000, 2000, 1, 1, false);
        dueSizes("24 of the greatest picture", 2000, 2000, 84, 2000, true);
        dueSizes("25 of the greatest picture", 2000, 2000, 83, 2000, false);
    }

    private static void dueSizes(String name, long width, long height, long tileWidth, long tileHeight,
            boolean isFine) {
        Build fed = new Build().begin().sizes(width, height, tileWidth, tileHeight, 8).style(0, 1, 5, 4, 1).step(8, 2)
                .end();
        WaveFiles x = read(name, fed, isFine ? 0 : -3);
        if (!isFine) {
            return;
        }
        Check.due(name + ": read", x.at(0, 0, 0), width);
        Check.due(name + ": read", x.at(1, 0, 0), height);
        int tiles = (int) ((width + tileWidth - 1) / tileWidth * ((height + tileHeight - 1) / tileHeight));
        Check.due(name + ": the last tile", x.at(4, tiles - 1, 0), 0);
        Check.dueIndex(name + ": no tile", () -> x.at(4, tiles, 0));
    }

    /** "likewise if a byte that is not 255 stands there", though all else is as it should be. */
    private static void bytesThatAreNot255() {
        for (int b : new int[] {0, 254}) {
            Build other = new Build().bytes(b, 100).two(3).bytes(9);
            read("before another code", Build.head().add(other).end(), -1 - HEAD);
            read("before a style", Build.head().style(0, 1, 5, 4, 1).end().alter(HEAD, b), -1 - HEAD);
            read("before 144", Build.head().bytes(b, 144, 0, 2).end(), -1 - HEAD);
            read("before 217", Build.head().bytes(b, 217, 0, 2).end(), -1 - HEAD);
            read("before 81", new Build().add(STREAM).alter(2, b), -3);
            dueSpoilt("before another code in a part", new Build().part(0, 0, other), 1);
            dueSpoilt("before lengths in a part", new Build().part(0, 0, lengths(0)).alter(12, b), 1);
            dueSpoilt("before 147 in a part", new Build().part(0, 0, NONE, 0, 2).alter(12, b), 1);
        }
        dueSpoilt("255 before another code in a part", new Build().part(0, 0, inner(255, 100, 0, 3, 9)), 0);
    }

    /** "Other codes, 81 and 88 too, are passed over (.. below 2 it is BROKEN)." */
    private static void codesPassedOver() {
        for (int code = 0; code <= 255; code++) {
            if (code == 82 || code == 83 || code == 92 || code == 93 || code == 144 || code == 217) {
                continue;
            }
            for (int length = 0; length <= 4; length++) {
                Build segment = inner(255, code, 0, length).bytes(new int[Math.max(0, length - 2)]);
                read(code + " with length " + length, Build.head().add(segment).end(), length < 2 ? -1 - HEAD : 0);
            }
            read(code + " one byte short", Build.head().bytes(255, code, 0, 4, 9), -1 - HEAD);
            read(code + " half its length", Build.head().bytes(255, code, 0), -1 - HEAD);
            read(code + " without a length", Build.head().bytes(255, code), -1 - HEAD);
        }
        int great = 300;
        Build far = Build.head().bytes(255, 100).two(great).bytes(new int[great - 2]).end();
        read("a length of two bytes", far, 0);
    }

    /** "There must be a STYLE and a STEP for all by then.": the 255 of 144, 217 is told. */
    private static void styleAndStepForAll() {
        Build sizes = new Build().begin().sizes(10, 8, 5, 4, 8, 12);
        Build style = new Build().style(0, 1, 5, 4, 1);
        Build step = new Build().step(8, 2);
        Build others = new Build().styleOf(0, 5, 4, 1).styleOf(1, 5, 4, 1).stepOf(0, 8, 2).stepOf(1, 8, 2);
        Build[] ends = {inner(255, 217), inner(255, 144), new Build().part(0, 0, new Build().add(style).add(step))};
        for (Build end : ends) {
            int parts = end.size() > 2 ? 1 : 0;
            read("neither", new Build().add(sizes).add(end), -1 - sizes.size());
            read("those of components", new Build().add(sizes).add(others).add(end), -1 - sizes.size() - others.size());
            read("no step", new Build().add(sizes).add(style).add(end), -1 - sizes.size() - style.size());
            read("no style", new Build().add(sizes).add(step).add(end), -1 - sizes.size() - step.size());
            read("both", new Build().add(sizes).add(style).add(step).add(end), parts);
            read("both the other way", new Build().add(sizes).add(step).add(others).add(style).add(end), parts);
        }
    }

    /** What a read() finds is its own: nothing of an earlier one is left. */
    private static void readAgain() {
        Build whole = Build.head().part(0, 0, lengths(3), 7, 8, 9).part(1, 0, new Build().step(3, 3), 1);
        WaveFiles x = read("first", whole, 2);
        duePart("as it should be", x, 0, 0, HEAD, 3, 1, 0, 0);
        x.alter(HEAD + 5, 9);
        Check.due("second", x.read(), 2);
        duePart("the tile is none now", x, 0, -1, HEAD, 0, 0, 1, 0);
        Check.dueIndex("so it has no byte", () -> x.partByte(0, 0));
        x.alter(HEAD + 5, 0);
        Check.due("third", x.read(), 2);
        duePart("as it should be again", x, 0, 0, HEAD, 3, 1, 0, 0);
        Check.due("read twice", x.read(), 2);
        duePart("all the same", x, 0, 0, HEAD, 3, 1, 0, 0);

        Build sizes = new Build().begin().sizes(10, 8, 5, 4, 8, 12);
        for (int step = 0; step <= 1; step++) {
            Build half = step == 1 ? new Build().step(8, 2) : new Build().style(0, 1, 5, 4, 1);
            WaveFiles y = read("as it should be", STREAM, 0);
            y.cut(0);
            new Build().add(sizes).add(half).end().fedTo(y);
            Check.due("half of what there must be", y.read(), -1 - sizes.size() - half.size());
        }

        WaveFiles z = read("boxes", Build.signature().box("res ", inner(1, 2, 3)).box("xml ", NONE)
                .box("jp2c", STREAM), 0);
        z.cut(0);
        Build.signature().box("uuid", inner(4)).box("jp2c", STREAM).fedTo(z);
        Check.due("other boxes", z.read(), 0);
        Check.due("one alone", z.told(6), 1);
        Check.due("its kind", z.unknown(0, -1), Build.kind("uuid"));
        Check.due("its bytes", z.unknown(0, -2), 1);
        Check.dueIndex("no more bytes", () -> z.unknown(0, 1));
        Check.dueIndex("no other box", () -> z.unknown(1, -1));
        coloursAgain();
    }

    private static void coloursAgain() {
        Build colour = new Build().box("colr", inner(1, 0, 0, 0, 0, 0, 17));
        WaveFiles x = read("a colour", Build.signature().box("jp2h", pictureHeader().add(colour))
                .box("jp2c", STREAM), 0);
        Check.due("a colour", x.at(11, 0, 0), 17);
        x.cut(0);
        Build.signature().box("jp2h", pictureHeader()).box("jp2c", STREAM).fedTo(x);
        Check.due("without one", x.read(), 0);
        Check.due("none now", x.at(11, 0, 0), -1);
    }
}
