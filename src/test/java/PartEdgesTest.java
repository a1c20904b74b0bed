/**
 * Promises 14, 16 and 17 at the edges that READING names for tile parts, each sentence by itself: what just fits, what
 * is one too short or too long, and what is not there at all.
 */
public final class PartEdgesTest extends Reading {
    public static void main(String[] args) {
        partsThatBegin();
        partsThatEnd();
        tilesAndNumbersOfParts();
        segmentsInParts();
        codesInParts();
        lengthsInParts();
        greatLengths();
        packetsOfCutParts();
        whatsOfParts();
        Check.finish();
    }

    /** "length must be 0 .. or 14 or more, 255 144 stand there and its 12 bytes be all there, else reading ends". */
    private static void partsThatBegin() {
        Build one = Build.head().part(1, 0, lengths(1), 5);
        for (int there = 0; there <= 14; there++) {
            WaveFiles x = read(there + " bytes are there", new Build().add(one).part(0, 0, NONE)
                    .cut(one.size() + there), there < 12 ? 1 : 2);
            duePart("the first stays", x, 0, 1, HEAD, 1, 1, 0, 0);
            Check.due("its byte too", x.partByte(0, 0), 5);
            if (there >= 12) {
                duePart(there + " bytes", x, 1, there < 14 ? -1 : 0, one.size(), 0, 0, there < 14 ? 1 : 0,
                        there < 14 ? 1 : 0);
            }
        }
        for (int length = 0; length <= 15; length++) {
            WaveFiles x = read("length " + length, new Build().add(one).partOfLength(length, 0, 0, NONE)
                    .part(2, 0, NONE), length == 0 ? 2 : length < 14 ? 1 : length == 14 ? 3 : 2);
            Check.due("the first stays", x.part(0, 0), 1);
        }
        read("255 145", new Build().add(one).part(0, 0, NONE).alter(one.size() + 1, 145), 1);
        read("254 144", new Build().add(one).part(0, 0, NONE).alter(one.size(), 254), 1);
        read("255 217", new Build().add(one).end().part(0, 0, NONE), 1);
        read("no part at all", Build.head().end().part(0, 0, NONE), 0);
    }

    /** "0 (to the end)", "A part that goes beyond the end is CUT there." */
    private static void partsThatEnd() {
        for (int more = -1; more <= 2; more++) {
            Build head = lengths(2, 1);
            int whole = 14 + head.size() + 3;
            WaveFiles x = read("a length of " + more + " more", Build.head()
                    .partOfLength(whole + more, 2, 0, head, 7, 8, 9), 1);
            if (more < 0) {
                duePart("one short", x, 0, -1, HEAD, 0, 0, 1, 0);
            } else {
                duePart(more + " more", x, 0, 2, HEAD, 3, 2, 0, more == 0 ? 0 : 1);
                for (int i = 0; i < 3; i++) {
                    Check.due("byte " + i, x.partByte(0, i), 7 + i);
                }
            }
        }
        for (long length : new long[] {0, 0x7FFFFFFFL, 0x80000000L, 0xFFFFFFFFL}) {
            WaveFiles x = read("length " + length, Build.head().partOfLength(length, 2, 0, lengths(2), 7, 8), 1);
            duePart("length " + length, x, 0, 2, HEAD, 2, 1, 0, length == 0 ? 0 : 1);
        }
        WaveFiles y = read("to the end of jp2c", Build.signature()
                .box("jp2c", Build.head().partOfLength(0, 2, 0, lengths(2), 7, 8)).box("res ", NONE), 1);
        duePart("not to that of all", y, 0, 2, 20 + HEAD, 2, 1, 0, 0);
        WaveFiles z = read("beyond the end of jp2c", Build.signature()
                .box("jp2c", Build.head().partOfLength(30, 2, 0, lengths(2), 7, 8)).box("res ", inner(new int[40])), 1);
        duePart("is cut there", z, 0, 2, 20 + HEAD, 2, 1, 0, 1);
    }

    /** "its 10 is another one, the TILE is none, its number is not as many as there were parts .. not SPOILT". */
    private static void tilesAndNumbersOfParts() {
        for (int ten : new int[] {0, 9, 11, 255}) {
            dueSpoilt("its 10 is " + ten, new Build().part(0, 0, NONE).alter(3, ten), 1);
        }
        dueSpoilt("its 10 is 266", new Build().part(0, 0, NONE).alter(2, 1), 1);
        int[] widths = {1, 2, 23, 24};
        for (int tiles : widths) {
            Build head = new Build().begin().sizes(tiles, 1, 1, 1, 8).style(0, 1, 5, 4, 1).step(8, 2);
            WaveFiles x = read(tiles + " tiles", new Build().add(head).part(tiles - 1, 0, NONE).part(tiles, 0, NONE)
                    .part(256, 0, NONE).part(65535, 0, NONE), 4);
            Check.due("the last tile", x.part(0, 0), tiles - 1);
            for (int k = 1; k < 4; k++) {
                duePart("a tile that is none", x, k, -1, head.size() + 14 * k, 0, 0, 1, 0);
            }
            Check.due("spoilt ones", x.told(7), 3);
        }
        Build fed = Build.head().part(0, 1, NONE).part(0, 0, NONE).part(0, 0, NONE).part(0, 2, NONE)
                .part(0, 1, NONE, 9).part(0, 1, NONE).part(0, 3, NONE).part(0, 255, NONE).part(0, 2, NONE)
                .part(1, 0, NONE);
        WaveFiles x = read("numbers", fed, 10);
        int[] spoilt = {1, 0, 1, 1, 1, 0, 1, 1, 0, 0};
        for (int k = 0; k < spoilt.length; k++) {
            Check.due("part " + k, x.part(k, 4), spoilt[k]);
        }
    }

    /** "a SEGMENT stands in one that is not the first of its TILE, or the 255 147 is missing". */
    private static void segmentsInParts() {
        Build[] segments = {new Build().style(4, 9, 1, 2, 0), new Build().styleOf(1, 1, 2, 0), new Build().step(3, 3),
            new Build().stepOf(1, 3, 3)};
        for (Build segment : segments) {
            int code = segment.get(1);
            WaveFiles x = read("a second part", Build.head().part(0, 0, NONE).part(0, 1, segment).part(1, 0, segment)
                    .part(0, 1, NONE), 4);
            int[] spoilt = {0, 1, 0, 0};
            for (int k = 0; k < spoilt.length; k++) {
                Check.due(code + ": part " + k, x.part(k, 4), spoilt[k]);
            }
            WaveFiles y = read("behind a spoilt one", Build.head().part(0, 0, segment, 1).part(0, 0, segment), 2);
            Check.due(code + ": the first is spoilt", y.part(0, 4), 1);
            Check.due(code + ": the second is the first of its tile", y.part(1, 4), 0);
        }
        dueSpoilt("no 147", new Build().part(0, 0, NONE).alter(13, 148), 1);
        dueSpoilt("no 147 behind lengths", new Build().part(0, 0, lengths(0)).alter(19, 148), 1);
        dueSpoilt("the part ends behind its 12 bytes and two more that are no 255 147", new Build()
                .partOfLength(14, 0, 0, NONE).alter(12, 0).alter(13, 0), 1);
        WaveFiles x = read("12 bytes to the end", Build.head().partOfLength(0, 0, 0, NONE).cut(HEAD + 12), 1);
        duePart("no 147", x, 0, -1, HEAD, 0, 0, 1, 0);
        WaveFiles y = read("13 bytes to the end", Build.head().partOfLength(0, 0, 0, NONE).cut(HEAD + 13), 1);
        duePart("half of it", y, 0, -1, HEAD, 0, 0, 1, 0);
        WaveFiles z = read("14 bytes to the end", Build.head().partOfLength(0, 0, 0, NONE), 1);
        duePart("all of it", z, 0, 0, HEAD, 0, 0, 0, 0);
    }

    /** "Other codes .. are passed over" in a part's head too, 144 and 217 among them: only 147 ends it. */
    private static void codesInParts() {
        for (int code = 0; code <= 255; code++) {
            boolean isSegment = code == 82 || code == 83 || code == 92 || code == 93;
            for (int length = 0; length <= 5; length++) {
                Build head = inner(255, code, 0, length).bytes(new int[Math.max(0, length - 2)]);
                boolean isFine = code == 88 ? length >= 3 : length >= 2 && !isSegment && code != 147;
                dueSpoilt(code + " with length " + length, new Build().part(0, 0, head), isFine ? 0 : 1);
            }
            dueSpoilt(code + " beyond the part", new Build().part(0, 0, inner(255, code, 0, 5)), 1);
        }
        for (int code : new int[] {79, 81, 100, 144, 217}) {
            Build head = inner(255, code, 0, 4, 255, 147).lengths(1);
            WaveFiles x = read("147 among the bytes of " + code, Build.head().part(0, 0, head, 9), 1);
            duePart("is no end of the head", x, 0, 0, HEAD, 1, 1, 0, 0);
            Check.due("the byte behind it", x.partByte(0, 0), 9);
            WaveFiles y = read(code + " in a second part", Build.head().part(0, 0, NONE).part(0, 1, head, 8), 2);
            duePart("is passed over", y, 1, 0, HEAD + 14, 1, 1, 0, 0);
        }
    }

    /** "if its bytes are not as many as its LENGTHS together tell (..)". */
    private static void lengthsInParts() {
        int[] data = {1, 2, 3, 4, 5};
        for (int there = 0; there <= 5; there++) {
            int[] bytes = java.util.Arrays.copyOf(data, there);
            dueSpoilt(there + " bytes where 3 are told", new Build().part(0, 0, lengths(1, 2), bytes),
                    there == 3 ? 0 : 1);
            dueSpoilt(there + " bytes where none are told", new Build().part(0, 0, NONE, bytes), there == 0 ? 0 : 1);
        }
        for (int behind : new int[] {0, 1, 255}) {
            dueSpoilt("the byte behind is " + behind, new Build().part(0, 0, inner(255, 88, 0, 4, behind, 1), 9), 0);
        }
        for (int length = 0; length <= 3; length++) {
            Build segment = inner(255, 88, 0, length).bytes(new int[Math.max(0, length - 2)]);
            dueSpoilt("lengths of length " + length, new Build().part(0, 0, segment), length < 3 ? 1 : 0);
        }
        for (int many : new int[] {0, 1, 199, 200, 201, 255}) {
            dueSpoilt(many + " lengths", new Build().part(0, 0, lengths(new int[many])), many <= 200 ? 0 : 1);
            Build two = lengths(new int[many / 2]).lengths(new int[many - many / 2]);
            dueSpoilt(many + " in two", new Build().part(0, 0, two), many <= 200 ? 0 : 1);
        }
        WaveFiles x = read("in order", Build.head().part(0, 0, lengths(2).lengths().lengths(1, 0), 7, 8, 9), 1);
        duePart("in order", x, 0, 0, HEAD, 3, 3, 0, 0);
        WaveFiles y = read("128 first", Build.head().part(0, 0, inner(255, 88, 0, 6, 0, 128, 128, 3), 7, 8, 9), 1);
        duePart("128 is not the last byte of one", y, 0, 0, HEAD, 3, 1, 0, 0);
        WaveFiles z = read("127", Build.head().part(0, 0, inner(255, 88, 0, 5, 0, 127, 1), new int[128]), 1);
        duePart("127 is the last byte of one", z, 0, 0, HEAD, 128, 2, 0, 0);
        WaveFiles w = read("129 0", Build.head().part(0, 0, inner(255, 88, 0, 5, 0, 129, 0), new int[128]), 1);
        duePart("the highest first", w, 0, 0, HEAD, 128, 1, 0, 0);
        WaveFiles v = read("half a length", Build.head().part(0, 0, inner(255, 88, 0, 5, 0, 2, 129)
                .bytes(255, 88, 0, 4, 0, 1), 7, 8, 9), 1);
        duePart("tells nothing", v, 0, 0, HEAD, 3, 2, 0, 0);
    }

    /** "or one above 100000, can't be". */
    private static void greatLengths() {
        for (int length : new int[] {16383, 16384, 99999, 100000, 100001, 0x7FFFFFF}) {
            boolean canBe = length <= 100000;
            WaveFiles x = read("a length of " + length, Build.head()
                    .partOfLength(999999, 0, 0, lengths(1, length), 7, 8), 1);
            duePart("cut, " + length, x, 0, canBe ? 0 : -1, HEAD, canBe ? 1 : 0, canBe ? 1 : 0, canBe ? 0 : 1, 1);
            dueSpoilt("not cut, " + length, new Build().part(0, 0, lengths(1, length), 7), 1);
        }
        int great = 16384;
        Build whole = Build.head().part(0, 0, lengths(great), new int[great]);
        WaveFiles x = read("three bytes of a length", whole, 1);
        duePart("three bytes of a length", x, 0, 0, HEAD, great, 1, 0, 0);
        for (int sevens = 1; sevens <= 12; sevens++) {
            Build zeros = inner(255, 88, 0, 4 + sevens, 0).bytes(new int[sevens]).bytes(1);
            for (int i = 0; i < sevens; i++) {
                zeros.alter(5 + i, 128);
            }
            dueSpoilt(sevens + " bytes of 128", new Build().part(0, 0, zeros, 9), 0);
            int bits = 7 * sevens + 1;
            dueSpoilt("a length of " + bits + " bits", new Build().part(0, 0, zeros.alter(5, 129), 9), 1);
        }
    }

    /** "but when it is CUT: then it has those PACKETS that are there whole, and no other bytes." */
    private static void packetsOfCutParts() {
        int[] told = {0, 2, 0, 1, 0, 3, 0};
        int[] data = {10, 11, 12, 13, 14, 15};
        int[] bytes = {0, 0, 2, 3, 3, 3, 6};
        int[] packets = {1, 1, 3, 5, 5, 5, 7};
        for (int there = 0; there <= 6; there++) {
            WaveFiles x = read("cut", Build.head().partOfLength(500, 0, 0, lengths(told),
                    java.util.Arrays.copyOf(data, there)), 1);
            duePart("cut behind " + there, x, 0, 0, HEAD, bytes[there], packets[there], 0, 1);
            Check.due("whole packets", x.told(8), packets[there]);
            for (int i = 0; i < bytes[there]; i++) {
                Check.due("byte " + i, x.partByte(0, i), data[i]);
            }
            int size = bytes[there];
            Check.dueIndex("no other bytes", () -> x.partByte(0, size));
        }
        WaveFiles x = read("more than its lengths tell", Build.head()
                .partOfLength(500, 0, 0, lengths(1, 1), 7, 8, 9), 1);
        duePart("more than its lengths tell", x, 0, 0, HEAD, 2, 2, 0, 1);
        Check.dueIndex("they are none of its bytes", () -> x.partByte(0, 2));
    }

    /** Promise 16: "NONE for another what", whatever the part; but there must be one. */
    private static void whatsOfParts() {
        WaveFiles x = read("two parts", Build.head().part(0, 0, lengths(1), 5).part(9, 0, NONE), 2);
        for (int what : new int[] {Integer.MIN_VALUE, -2, -1, 6, 7, Integer.MAX_VALUE}) {
            Check.due("what " + what, x.part(0, what), -1);
            Check.due("what " + what + " of a spoilt one", x.part(1, what), -1);
            for (int k : new int[] {Integer.MIN_VALUE, -1, 2, 300, Integer.MAX_VALUE}) {
                Check.dueIndex("what " + what + " of part " + k, () -> x.part(k, what));
            }
        }
        for (int i : new int[] {Integer.MIN_VALUE, -1, 1, Integer.MAX_VALUE}) {
            Check.dueIndex("byte " + i, () -> x.partByte(0, i));
        }
        for (int k : new int[] {Integer.MIN_VALUE, -1, 2, 300, Integer.MAX_VALUE}) {
            Check.dueIndex("byte 0 of part " + k, () -> x.partByte(k, 0));
        }
        Check.dueIndex("byte 0 of a spoilt one", () -> x.partByte(1, 0));
    }
}
