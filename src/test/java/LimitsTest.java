/**
 * Promises 3 to 14 where they are empty and where they are full: the last one that has room, and what a file shows
 * that is as full as it may be. Every object here is asked at most 512 times.
 */
public final class LimitsTest {
    private static final int RES = 0x72657320;
    /** Where the stream begins in a file without made boxes, and where its first part stands. */
    private static final int STREAM = 70;
    private static final int FIRST_PART = STREAM + 2 + 43 + 14 + 7;

    public static void main(String[] args) {
        fortyParts();
        partsOfManyTiles();
        twentyPackets();
        threeHundredBytesOfAPart();
        bytesAreOfTheLastPacket();
        lengthsInAsFewBytesAsCanBe();
        withoutPackets();
        eightBoxes();
        fortyBytesOfABox();
        signsOfKinds();
        everyByte();
        passAtItsEdges();
        cutAtItsEdges();
        alterAtItsEdges();
        twentyThousandFed();
        threeHundredPartsRead();
        unknownBoxesToTheBrim();
        countsThatAreNone();
        Check.finish();
    }

    private static int number(WaveFiles x, int i, int bytes) {
        int v = 0;
        for (int k = 0; k < bytes; k++) {
            v = v << 8 | x.byteAt(i + k);
        }
        return v;
    }

    /** Promise 3: "UnsupportedOperation: there are 40." */
    private static void fortyParts() {
        WaveFiles x = new WaveFiles(5, 5);
        int empty = x.write();
        for (int part = 0; part < 39; part++) {
            Check.due("tilePart", x.tilePart(0), part);
        }
        Check.due("told", x.told(1), 39);
        Check.due("the 40th", x.tilePart(0), 39);
        Check.dueNoRoom("the 41st", () -> x.tilePart(0));
        Check.due("told", x.told(1), 40);
        int n = x.write();
        Check.due("40 parts of 14 bytes more", n, empty + 40 * 14);
        for (int part = 0; part < 40; part++) {
            int place = FIRST_PART + 14 * part;
            Check.due("its length", number(x, place + 6, 4), 14);
            Check.due("parts of the tile before it", x.byteAt(place + 10), part);
        }
        x.pass(0, n);
        Check.due("all are read", x.read(), 40);
        Check.due("none is spoilt", x.told(7), 0);
        x.clear();
        Check.due("clear makes room", x.tilePart(0), 0);
    }

    /** "how many parts of this TILE were before it", not how many parts. */
    private static void partsOfManyTiles() {
        WaveFiles x = new WaveFiles(1, 1);
        x.set(0, -1, -1, 24);
        for (int part = 0; part < 40; part++) {
            x.tilePart(part % 24);
        }
        x.pass(0, x.write());
        Check.due("all are read", x.read(), 40);
        for (int part = 0; part < 40; part++) {
            int place = FIRST_PART + 14 * part;
            Check.due("its tile", number(x, place + 4, 2), part % 24);
            Check.due("parts of the tile before it", x.byteAt(place + 10), part / 24);
            Check.due("its tile read", x.part(part, 0), part % 24);
            Check.due("its place read", x.part(part, 1), place);
        }
    }

    /** Promise 4: "UnsupportedOperation: it has 20." */
    private static void twentyPackets() {
        WaveFiles x = new WaveFiles(5, 5);
        x.tilePart(0);
        x.tilePart(0);
        for (int packet = 1; packet <= 19; packet++) {
            Check.due("packet", x.packet(0), packet);
        }
        Check.due("the 20th", x.packet(0), 20);
        Check.dueNoRoom("the 21st", () -> x.packet(0));
        Check.due("another part has room", x.packet(1), 1);
        x.pass(0, x.write());
        Check.due("the length of 20 empty ones", number(x, FIRST_PART + 14, 2), 23);
        x.read();
        Check.due("20 are read", x.part(0, 3), 20);
        Check.due("21 in all", x.told(8), 21);
    }

    /** Promise 5: "UnsupportedOperation: it has 300.", whatever its packets. */
    private static void threeHundredBytesOfAPart() {
        WaveFiles x = new WaveFiles(5, 5);
        x.tilePart(0);
        x.tilePart(0);
        x.packet(0);
        x.packet(1);
        for (int i = 0; i < 299; i++) {
            if (i == 150) {
                x.packet(0);
            }
            Check.due("byteOf", x.byteOf(0, i % 256), i + 1);
        }
        Check.due("the 300th", x.byteOf(0, 255), 300);
        Check.dueNoRoom("the 301st", () -> x.byteOf(0, 255));
        x.packet(0);
        Check.dueNoRoom("nor in a new packet", () -> x.byteOf(0, 255));
        Check.due("another part has room", x.byteOf(1, 9), 1);
        x.pass(0, x.write());
        Check.due("both are read", x.read(), 2);
        Check.due("300 bytes", x.part(0, 2), 300);
        Check.due("three packets", x.part(0, 3), 3);
        for (int i = 0; i < 150; i++) {
            Check.due("byte " + i, x.partByte(0, 2 * i), 2 * i % 256);
        }
        Check.due("the last", x.partByte(0, 299), 255);
        Check.dueIndex("byte 300", () -> x.partByte(0, 300));
        Check.dueIndex("byte -1", () -> x.partByte(0, -1));
    }

    /** Promise 5: "A byte more for the last PACKET of a part". */
    private static void bytesAreOfTheLastPacket() {
        WaveFiles x = new WaveFiles(5, 5);
        x.tilePart(0);
        x.packet(0);
        x.byteOf(0, 1);
        x.packet(0);
        x.packet(0);
        Check.due("how many the part has", x.byteOf(0, 2), 2);
        Check.due("how many the part has", x.byteOf(0, 3), 3);
        x.packet(0);
        x.write();
        int[] lengths = {1, 0, 2, 0};
        Check.due("bytes of lengths", number(x, FIRST_PART + 14, 2), 3 + lengths.length);
        for (int i = 0; i < lengths.length; i++) {
            Check.due("length " + i, x.byteAt(FIRST_PART + 17 + i), lengths[i]);
        }
    }

    /** "seven bits a byte, the highest first, in as few bytes as can be, with 128 in all but the last byte". */
    private static void lengthsInAsFewBytesAsCanBe() {
        int[] lengths = {0, 1, 126, 127, 128, 129, 254, 255, 256, 257, 299, 300};
        for (int length : lengths) {
            WaveFiles x = new WaveFiles(5, 5);
            x.tilePart(0);
            x.packet(0);
            for (int i = 0; i < length; i++) {
                x.byteOf(0, 7);
            }
            x.pass(0, x.write());
            int bytes = length < 128 ? 1 : 2;
            String name = "a length of " + length;
            Check.due(name + ": its bytes", number(x, FIRST_PART + 14, 2), 3 + bytes);
            Check.due(name + ": the byte behind", x.byteAt(FIRST_PART + 16), 0);
            if (bytes == 2) {
                Check.due(name + ": first", x.byteAt(FIRST_PART + 17), length < 256 ? 129 : 130);
            }
            Check.due(name + ": last", x.byteAt(FIRST_PART + 16 + bytes), length % 128);
            Check.due(name + ": 255", x.byteAt(FIRST_PART + 17 + bytes), 255);
            Check.due(name + ": 147", x.byteAt(FIRST_PART + 18 + bytes), 147);
            Check.due(name + ": the whole part", number(x, FIRST_PART + 6, 4), 19 + bytes + length);
            Check.due(name + ": read", x.read(), 1);
            Check.due(name + ": bytes read", x.part(0, 2), length);
        }
    }

    /** "Without a PACKET there are no lengths, and no 255 88." */
    private static void withoutPackets() {
        WaveFiles x = new WaveFiles(5, 5);
        x.tilePart(0);
        int n = x.write();
        Check.due("255", x.byteAt(FIRST_PART + 12), 255);
        Check.due("147", x.byteAt(FIRST_PART + 13), 147);
        Check.due("the end", x.byteAt(FIRST_PART + 15), 217);
        Check.due("no more", n, FIRST_PART + 16);
        x.packet(0);
        Check.due("an empty packet has a length", x.write(), n + 6);
        Check.due("88", x.byteAt(FIRST_PART + 13), 88);
    }

    /** Promise 6: "UnsupportedOperation: there are 8.", those INSIDE and others together. */
    private static void eightBoxes() {
        WaveFiles x = new WaveFiles(5, 5);
        for (int box = 0; box < 7; box++) {
            Check.due("box", x.box(box % 3 == 0, RES + box), box);
        }
        Check.due("told", x.told(2), 7);
        Check.due("the 8th", x.box(true, RES + 7), 7);
        Check.dueNoRoom("the 9th inside", () -> x.box(true, RES));
        Check.dueNoRoom("the 9th not inside", () -> x.box(false, RES));
        Check.due("told", x.told(2), 8);
        x.pass(0, x.write());
        x.read();
        int[] order = {0, 3, 6, 7, 1, 2, 4, 5};
        Check.due("all are met", x.told(6), 8);
        for (int k = 0; k < 8; k++) {
            Check.due("those inside first: " + k, x.unknown(k, -1), RES + order[k]);
            Check.due("without bytes", x.unknown(k, -2), 0);
        }
        x.clear();
        Check.due("clear makes room", x.box(false, RES), 0);
    }

    /** Promise 7: "UnsupportedOperation: it has 40." */
    private static void fortyBytesOfABox() {
        for (int inside = 0; inside <= 1; inside++) {
            WaveFiles x = new WaveFiles(5, 5);
            x.box(inside == 1, RES);
            x.box(inside == 1, RES);
            for (int i = 0; i < 39; i++) {
                Check.due("boxByte", x.boxByte(0, 3 * i), i + 1);
            }
            Check.due("the 40th", x.boxByte(0, 255), 40);
            Check.dueNoRoom("the 41st", () -> x.boxByte(0, 255));
            Check.due("another box has room", x.boxByte(1, 6), 1);
            x.pass(0, x.write());
            x.read();
            Check.due("40 bytes", x.unknown(0, -2), 40);
            for (int i = 0; i < 39; i++) {
                Check.due("byte " + i, x.unknown(0, i), 3 * i);
            }
            Check.due("the last", x.unknown(0, 39), 255);
            Check.dueIndex("byte 40", () -> x.unknown(0, 40));
            Check.due("the other's", x.unknown(1, 0), 6);
        }
    }

    /** "KINDS are four signs 32 .. 126, told as a number, the first the highest." */
    private static void signsOfKinds() {
        for (int shift = 0; shift < 32; shift += 8) {
            int rest = 0x41414141 & ~(255 << shift);
            for (int inside = 0; inside <= 1; inside++) {
                WaveFiles x = new WaveFiles(5, 5);
                boolean isInside = inside == 1;
                for (int sign : new int[] {0, 31, 127, 128, 255}) {
                    int none = rest | sign << shift;
                    Check.dueArgument("kind " + none, () -> x.box(isInside, none));
                }
                Check.due("sign 32", x.box(isInside, rest | 32 << shift), 0);
                Check.due("sign 126", x.box(isInside, rest | 126 << shift), 1);
                x.pass(0, x.write());
                x.read();
                Check.due("sign 32 read", x.unknown(0, -1), rest | 32 << shift);
                Check.due("sign 126 read", x.unknown(1, -1), rest | 126 << shift);
            }
        }
        String[] own = {"jP  ", "ftyp", "jp2h", "ihdr", "jp2c"};
        for (String kind : own) {
            WaveFiles x = new WaveFiles(5, 5);
            Check.dueArgument(kind + " inside", () -> x.box(true, Build.kind(kind)));
            Check.dueArgument(kind, () -> x.box(false, Build.kind(kind)));
            Check.due("one sign more is another kind", x.box(false, Build.kind(kind) + 1), 0);
            Check.due("one sign less is another kind", x.box(true, Build.kind(kind) - 0x10000), 1);
        }
    }

    /** A byte is 0 .. 255, wherever one is given. */
    private static void everyByte() {
        WaveFiles x = new WaveFiles(5, 5);
        x.tilePart(0);
        x.packet(0);
        x.box(false, RES);
        for (int b : new int[] {Integer.MIN_VALUE, -256, -1, 256, 257, Integer.MAX_VALUE}) {
            Check.dueArgument("byteOf " + b, () -> x.byteOf(0, b));
            Check.dueArgument("boxByte " + b, () -> x.boxByte(0, b));
            Check.dueArgument("feed " + b, () -> x.feed(b));
        }
        int[] edges = {0, 1, 127, 128, 254, 255};
        for (int i = 0; i < edges.length; i++) {
            Check.due("byteOf", x.byteOf(0, edges[i]), i + 1);
            Check.due("boxByte", x.boxByte(0, edges[i]), i + 1);
            Check.due("feed", x.feed(edges[i]), i + 1);
        }
        for (int i = 0; i < edges.length; i++) {
            Check.due("it was fed", x.alter(i, 255 - edges[i]), edges[i]);
            Check.due("it was altered", x.alter(i, 0), 255 - edges[i]);
        }
        x.cut(0);
        x.pass(0, x.write());
        x.read();
        for (int i = 0; i < edges.length; i++) {
            Check.due("partByte", x.partByte(0, i), edges[i]);
            Check.due("unknown", x.unknown(0, i), edges[i]);
        }
    }

    /** Promise 11: "from one on, n or as many as there are: how many." */
    private static void passAtItsEdges() {
        WaveFiles x = new WaveFiles(5, 5);
        Check.dueIndex("there is no file", () -> x.pass(0, 0));
        Check.dueIndex("there is no file", () -> x.pass(-1, 0));
        int n = x.write();
        Check.dueIndex("from -1", () -> x.pass(-1, 1));
        Check.dueIndex("from the end", () -> x.pass(n, 1));
        Check.dueIndex("from the end, none", () -> x.pass(n, 0));
        Check.dueArgument("n -1", () -> x.pass(n - 1, -1));
        Check.due("none so far", x.told(4), 0);
        Check.due("none", x.pass(0, 0), 0);
        Check.due("none of the last", x.pass(n - 1, 0), 0);
        Check.due("none so far", x.told(4), 0);
        Check.due("the last", x.pass(n - 1, 1), 1);
        Check.due("the last, two wanted", x.pass(n - 1, 2), 1);
        Check.due("all but one", x.pass(0, n - 1), n - 1);
        Check.due("all", x.pass(0, n), n);
        Check.due("all, one more wanted", x.pass(0, n + 1), n);
        Check.due("all, the most wanted", x.pass(0, Integer.MAX_VALUE), n);
        Check.due("all but one, the most wanted", x.pass(1, Integer.MAX_VALUE), n - 1);
        Check.due("so many are fed", x.told(4), 2 + 5 * n - 2);
        Check.due("the first", x.alter(0, 0), 217);
        Check.due("the second", x.alter(1, 0), 217);
        Check.due("the third", x.alter(2 + 3, 0), 12);
        Check.due("the last of all but one is not there", x.alter(n, 0), 255);
        Check.due("behind it the file begins again", x.alter(n + 1 + 3, 0), 12);
    }

    /** Promise 13: "What was fed is cut behind so many bytes: how many are left." */
    private static void cutAtItsEdges() {
        WaveFiles x = new WaveFiles(5, 5);
        Check.due("of nothing", x.cut(0), 0);
        Check.due("of nothing", x.cut(1), 0);
        Check.dueArgument("-1", () -> x.cut(-1));
        for (int i = 0; i < 5; i++) {
            x.feed(i);
        }
        Check.due("one more than there are", x.cut(6), 5);
        Check.due("as many as there are", x.cut(5), 5);
        Check.due("told", x.told(4), 5);
        Check.due("one fewer", x.cut(4), 4);
        Check.due("what is cut does not come back", x.cut(5), 4);
        Check.dueIndex("byte 4 is gone", () -> x.alter(4, 0));
        Check.due("byte 3 is there", x.alter(3, 0), 3);
        Check.dueArgument("-1", () -> x.cut(-1));
        Check.due("told", x.told(4), 4);
        Check.due("none is left", x.cut(0), 0);
        Check.dueIndex("byte 0 is gone", () -> x.alter(0, 0));
        Check.due("the next is the first", x.feed(7), 1);
    }

    /** Promise 12: "A byte that was fed becomes another one: what it was." */
    private static void alterAtItsEdges() {
        WaveFiles x = new WaveFiles(5, 5);
        Check.dueIndex("nothing is fed", () -> x.alter(0, 1));
        Check.dueIndex("nothing is fed", () -> x.alter(-1, 1));
        x.feed(10);
        x.feed(20);
        Check.dueIndex("before the first", () -> x.alter(-1, 1));
        Check.dueIndex("behind the last", () -> x.alter(2, 1));
        Check.dueArgument("no byte", () -> x.alter(1, 256));
        Check.dueArgument("no byte", () -> x.alter(1, -1));
        Check.due("the last", x.alter(1, 255), 20);
        Check.due("the first", x.alter(0, 0), 10);
        Check.due("the last, altered", x.alter(1, 5), 255);
        Check.due("the first, altered", x.alter(0, 5), 0);
        Check.due("none more is fed", x.told(4), 2);
        int n = x.write();
        x.pass(0, n);
        x.alter(2, 99);
        Check.due("the file is not altered", x.byteAt(0), 0);
    }

    /** Promises 10 and 11: "there are 20000", "there would be more than 20000". */
    private static void twentyThousandFed() {
        WaveFiles x = new WaveFiles(5, 5);
        int n = x.write();
        for (int i = 0; i < 200 && x.told(4) + n <= 19998; i++) {
            x.pass(0, n);
        }
        x.pass(0, 19998 - x.told(4));
        Check.due("told", x.told(4), 19998);
        Check.dueNoRoom("three by pass", () -> x.pass(0, 3));
        Check.due("told", x.told(4), 19998);
        Check.due("the 19999th", x.feed(1), 19999);
        Check.dueNoRoom("two by pass", () -> x.pass(0, 2));
        Check.dueNoRoom("the whole by pass", () -> x.pass(0, n));
        Check.due("the 20000th by pass", x.pass(n - 1, 2), 1);
        Check.dueNoRoom("the 20001st", () -> x.feed(1));
        Check.dueNoRoom("the 20001st by pass", () -> x.pass(n - 1, 2));
        Check.due("none has room", x.pass(0, 0), 0);
        Check.due("told", x.told(4), 20000);
        Check.due("the last", x.alter(19999, 3), 217);
        Check.dueIndex("behind it", () -> x.alter(20000, 3));
        Check.due("read", x.read(), 0);
        Check.due("cut by one", x.cut(19999), 19999);
        Check.due("one has room", x.feed(4), 20000);
        Check.due("what was read stays", x.at(0, 0, 0), 5);
        x.clear();
        Check.due("clear makes room", x.feed(4), 1);
    }

    /** Promise 14: "SPOILT ones too (300 at most: then reading ends)". */
    private static void threeHundredPartsRead() {
        for (int many = 299; many <= 302; many++) {
            WaveFiles x = new WaveFiles(5, 5);
            for (int part = 0; part < 40; part++) {
                x.tilePart(0);
            }
            x.write();
            x.pass(STREAM, FIRST_PART - STREAM);
            for (int left = many; left > 0; left -= 40) {
                x.pass(FIRST_PART, 14 * Math.min(40, left));
            }
            int read = Math.min(300, many);
            Check.due(many + " parts", x.read(), read);
            Check.due("told", x.told(5), read);
            Check.due("the first 40 are fine", x.told(7), read - 40);
            Check.due("the last one's place", x.part(read - 1, 1), FIRST_PART - STREAM + 14 * (read - 1));
            Check.due("the last one is spoilt", x.part(read - 1, 4), 1);
            Check.dueIndex("there are no more", () -> x.part(read, 0));
            Check.dueIndex("nor bytes of them", () -> x.partByte(read, 0));
        }
    }

    /** Promise 18: no bound is told for UNKNOWN boxes but what can be fed: as many empty ones as have room. */
    private static void unknownBoxesToTheBrim() {
        WaveFiles x = new WaveFiles(5, 5);
        for (int box = 0; box < 8; box++) {
            x.box(false, RES + box);
        }
        x.write();
        int boxes = STREAM - 8;
        int stream = boxes + 64;
        x.pass(0, boxes);
        int many = 0;
        for (int left = 20000 - boxes - (x.told(3) - stream); left >= 8; left -= 64) {
            many += x.pass(boxes, Math.min(64, left - left % 8)) / 8;
        }
        Check.yes("more than 2400", many > 2400);
        x.pass(stream, x.told(3));
        Check.yes("no other has room", x.told(4) > 19992);
        Check.due("read", x.read(), 0);
        Check.due("all are met", x.told(6), many);
        Check.due("the first", x.unknown(0, -1), RES);
        Check.due("the second", x.unknown(1, -1), RES + 1);
        Check.due("the last", x.unknown(many - 1, -1), RES + (many - 1) % 8);
        Check.due("it has no bytes", x.unknown(many - 1, -2), 0);
        int met = x.told(6);
        Check.dueIndex("so not one", () -> x.unknown(met - 1, 0));
        Check.dueIndex("there are no more", () -> x.unknown(met, -1));
    }

    /** Promise 19: "0 without such; NONE for another what." */
    private static void countsThatAreNone() {
        WaveFiles x = new WaveFiles(5, 5);
        for (int what = 1; what <= 8; what++) {
            Check.due("told(" + what + ")", x.told(what), 0);
        }
        for (int what : new int[] {Integer.MIN_VALUE, -2, -1, 9, 10, Integer.MAX_VALUE}) {
            Check.due("told(" + what + ")", x.told(what), -1);
        }
        x.pass(0, x.write());
        Check.due("nothing is read by that", x.told(5), 0);
        Check.due("a file without parts", x.read(), 0);
        for (int what = 5; what <= 8; what++) {
            Check.due("told(" + what + ") of it", x.told(what), 0);
        }
        Check.due("yet it was read", x.at(0, 0, 0), 5);
        Check.dueIndex("no part", () -> x.part(0, 0));
        Check.dueIndex("no part's byte", () -> x.partByte(0, 0));
    }
}
