/**
 * "Of several that a call names, the first one. A call that throws changes nothing.": every way in which a call is
 * refused, with all that the object shows behind it compared with one that never had the call.
 */
public final class RefusedTest {
    private interface Made {
        WaveFiles make();
    }

    private interface Refused {
        long on(WaveFiles x);
    }

    private static final int RES = 0x72657320;
    private static final int JP2C = 0x6A703263;

    public static void main(String[] args) {
        setRefused();
        makingRefused();
        fullRefused();
        feedingRefused();
        askingRefused();
        nothingThere();
        severalAtOnce();
        Check.finish();
    }

    /** Six tiles, two components, segments of each sort, parts, boxes, a file that was read, and a byte more. */
    private static WaveFiles rich() {
        WaveFiles x = new WaveFiles(5, 4);
        x.set(0, -1, -1, 12);
        x.set(1, -1, -1, 5);
        x.set(2, -1, -1, 2);
        x.set(3, -1, 1, 12);
        x.set(6, -1, 1, 2);
        x.set(4, 5, -1, 3);
        x.set(10, 3, 1, 7);
        x.tilePart(5);
        x.packet(0);
        x.byteOf(0, 255);
        x.tilePart(3);
        x.box(true, 0x636F6C72);
        x.boxByte(0, 7);
        x.box(false, RES);
        x.boxByte(1, 8);
        x.pass(0, x.write());
        x.read();
        x.tilePart(5);
        x.feed(9);
        return x;
    }

    /** Nothing fixes the sizes yet. */
    private static WaveFiles open() {
        WaveFiles x = new WaveFiles(10, 10);
        x.set(0, -1, -1, 60);
        x.set(1, -1, -1, 40);
        x.set(2, -1, -1, 3);
        return x;
    }

    /** 40 parts, one of them with 20 packets and 300 bytes, 8 boxes, one of them with 40 bytes, and 20000 bytes fed. */
    private static WaveFiles full() {
        WaveFiles x = new WaveFiles(5, 4);
        for (int part = 0; part < 40; part++) {
            x.tilePart(0);
        }
        for (int i = 0; i < 300; i++) {
            if (i < 20) {
                x.packet(7);
            }
            x.byteOf(7, i % 256);
        }
        for (int box = 0; box < 8; box++) {
            x.box(box % 2 == 0, RES);
        }
        for (int i = 0; i < 40; i++) {
            x.boxByte(3, i);
        }
        int n = x.write();
        for (int i = 0; i < 20 && x.told(4) < 20000; i++) {
            x.pass(0, Math.min(n, 20000 - x.told(4)));
        }
        return x;
    }

    private static void refused(String call, Class<? extends RuntimeException> want, Made made, Refused refused) {
        WaveFiles x = made.make();
        Check.dueThrow(call, want, () -> refused.on(x));
        Check.yes(call + " changed nothing", Show.all(x).equals(Show.all(made.make())));
    }

    private static void index(String call, Made made, Refused refused) {
        refused(call, IndexOutOfBoundsException.class, made, refused);
    }

    private static void state(String call, Made made, Refused refused) {
        refused(call, IllegalStateException.class, made, refused);
    }

    private static void argument(String call, Made made, Refused refused) {
        refused(call, IllegalArgumentException.class, made, refused);
    }

    private static void noRoom(String call, Made made, Refused refused) {
        refused(call, UnsupportedOperationException.class, made, refused);
    }

    private static void setRefused() {
        index("what -1", RefusedTest::rich, x -> x.set(-1, -1, -1, 1));
        index("what 11", RefusedTest::rich, x -> x.set(11, -1, -1, 1));
        index("width of a tile", RefusedTest::open, x -> x.set(0, 0, -1, 20));
        index("components of a component", RefusedTest::open, x -> x.set(2, -1, 0, 2));
        index("depth of a tile", RefusedTest::rich, x -> x.set(3, 0, 0, 4));
        index("depth of a component that is not there", RefusedTest::rich, x -> x.set(3, -1, 2, 4));
        index("order of a component", RefusedTest::rich, x -> x.set(4, -1, 0, 1));
        index("layers of a component of a tile", RefusedTest::rich, x -> x.set(5, 0, 0, 2));
        index("levels of tile 6 of 6", RefusedTest::rich, x -> x.set(6, 6, -1, 1));
        index("levels of component 2 of 2", RefusedTest::rich, x -> x.set(6, -1, 2, 1));
        index("levels of tile -2", RefusedTest::rich, x -> x.set(6, -2, -1, 1));
        index("levels of component -2", RefusedTest::rich, x -> x.set(6, -1, -2, 1));
        state("width behind a segment", RefusedTest::rich, x -> x.set(0, -1, -1, 5));
        state("height behind a segment", RefusedTest::rich, x -> x.set(1, -1, -1, 4));
        state("components behind a segment", RefusedTest::rich, x -> x.set(2, -1, -1, 1));
        argument("width 0", RefusedTest::open, x -> x.set(0, -1, -1, 0));
        argument("width for 28 tiles", RefusedTest::open, x -> x.set(0, -1, -1, 61));
        argument("height for 30 tiles", RefusedTest::open, x -> x.set(1, -1, -1, 41));
        argument("components 5", RefusedTest::open, x -> x.set(2, -1, -1, 5));
        argument("depth 17 for all", RefusedTest::open, x -> x.set(3, -1, -1, 17));
        argument("depth 0 of a component", RefusedTest::open, x -> x.set(3, -1, 1, 0));
        int[] above = {0, 0, 0, 0, 5, 1001, 6, 7, 2, 32, 8};
        for (int w = 4; w <= 10; w++) {
            int what = w;
            argument(what + " for all", RefusedTest::open, x -> x.set(what, -1, -1, above[what]));
            argument(what + " of a tile, whose segment is not made", RefusedTest::open,
                    x -> x.set(what, 23, -1, above[what]));
            if (what >= 6) {
                argument(what + " of a component", RefusedTest::open, x -> x.set(what, -1, 2, above[what]));
                argument(what + " of both", RefusedTest::open, x -> x.set(what, 0, 0, above[what]));
            }
        }
    }

    private static void makingRefused() {
        index("tilePart(-1)", RefusedTest::rich, x -> x.tilePart(-1));
        index("tilePart(6) of 6", RefusedTest::rich, x -> x.tilePart(6));
        index("tilePart(24) of 24", RefusedTest::open, x -> x.tilePart(24));
        index("packet(-1)", RefusedTest::rich, x -> x.packet(-1));
        index("packet(3) of 3", RefusedTest::rich, x -> x.packet(3));
        index("byteOf(-1, 1)", RefusedTest::rich, x -> x.byteOf(-1, 1));
        index("byteOf(3, 1) of 3", RefusedTest::rich, x -> x.byteOf(3, 1));
        state("byteOf a part without a packet", RefusedTest::rich, x -> x.byteOf(1, 1));
        argument("byteOf(0, -1)", RefusedTest::rich, x -> x.byteOf(0, -1));
        argument("byteOf(0, 256)", RefusedTest::rich, x -> x.byteOf(0, 256));
        argument("a kind with a sign below 32", RefusedTest::rich, x -> x.box(true, 0x7265731F));
        argument("a kind with a sign above 126", RefusedTest::rich, x -> x.box(false, 0x7F657320));
        argument("jp2c", RefusedTest::rich, x -> x.box(false, JP2C));
        index("boxByte(-1, 1)", RefusedTest::rich, x -> x.boxByte(-1, 1));
        index("boxByte(2, 1) of 2", RefusedTest::rich, x -> x.boxByte(2, 1));
        argument("boxByte(0, -1)", RefusedTest::rich, x -> x.boxByte(0, -1));
        argument("boxByte(0, 256)", RefusedTest::rich, x -> x.boxByte(0, 256));
    }

    private static void fullRefused() {
        noRoom("the 41st part", RefusedTest::full, x -> x.tilePart(0));
        noRoom("the 21st packet", RefusedTest::full, x -> x.packet(7));
        noRoom("the 301st byte of a part", RefusedTest::full, x -> x.byteOf(7, 1));
        noRoom("the 9th box", RefusedTest::full, x -> x.box(true, RES));
        noRoom("the 41st byte of a box", RefusedTest::full, x -> x.boxByte(3, 1));
        noRoom("the 20001st byte", RefusedTest::full, x -> x.feed(1));
        noRoom("the 20001st byte by pass", RefusedTest::full, x -> x.pass(0, 1));
        noRoom("the last of the file at the brim", RefusedTest::full, x -> x.pass(x.told(3) - 1, Integer.MAX_VALUE));
    }

    private static void feedingRefused() {
        argument("feed(-1)", RefusedTest::rich, x -> x.feed(-1));
        argument("feed(256)", RefusedTest::rich, x -> x.feed(256));
        index("pass(-1, 1)", RefusedTest::rich, x -> x.pass(-1, 1));
        index("pass from the end", RefusedTest::rich, x -> x.pass(x.told(3), 1));
        argument("pass(0, -1)", RefusedTest::rich, x -> x.pass(0, -1));
        argument("pass(0, least)", RefusedTest::rich, x -> x.pass(0, Integer.MIN_VALUE));
        index("alter(-1, 1)", RefusedTest::rich, x -> x.alter(-1, 1));
        index("alter at the end", RefusedTest::rich, x -> x.alter(x.told(4), 1));
        argument("alter(0, -1)", RefusedTest::rich, x -> x.alter(0, -1));
        argument("alter(0, 256)", RefusedTest::rich, x -> x.alter(0, 256));
        argument("cut(-1)", RefusedTest::rich, x -> x.cut(-1));
        argument("cut(least)", RefusedTest::rich, x -> x.cut(Integer.MIN_VALUE));
    }

    private static void askingRefused() {
        index("byteAt(-1)", RefusedTest::rich, x -> x.byteAt(-1));
        index("byteAt the end", RefusedTest::rich, x -> x.byteAt(x.told(3)));
        index("at(-1)", RefusedTest::rich, x -> x.at(-1, 0, 0));
        index("at(12)", RefusedTest::rich, x -> x.at(12, 0, 0));
        index("at tile 6 of 6", RefusedTest::rich, x -> x.at(6, 6, 0));
        index("at component 2 of 2", RefusedTest::rich, x -> x.at(6, 0, 2));
        index("part(-1)", RefusedTest::rich, x -> x.part(-1, 0));
        index("part(2) of 2", RefusedTest::rich, x -> x.part(2, 0));
        index("partByte of part 2 of 2", RefusedTest::rich, x -> x.partByte(2, 0));
        index("partByte 1 of 1", RefusedTest::rich, x -> x.partByte(0, 1));
        index("partByte -1", RefusedTest::rich, x -> x.partByte(0, -1));
        index("unknown(2) of 2", RefusedTest::rich, x -> x.unknown(2, -1));
        index("unknown byte 1 of 1", RefusedTest::rich, x -> x.unknown(0, 1));
        index("unknown what -3", RefusedTest::rich, x -> x.unknown(0, -3));
    }

    private static void nothingThere() {
        index("packet", RefusedTest::open, x -> x.packet(0));
        index("byteOf", RefusedTest::open, x -> x.byteOf(0, 1));
        index("boxByte", RefusedTest::open, x -> x.boxByte(0, 1));
        index("byteAt", RefusedTest::open, x -> x.byteAt(0));
        index("pass", RefusedTest::open, x -> x.pass(0, 0));
        index("alter", RefusedTest::open, x -> x.alter(0, 0));
        state("at", RefusedTest::open, x -> x.at(0, 0, 0));
        state("part", RefusedTest::open, x -> x.part(0, 0));
        state("partByte", RefusedTest::open, x -> x.partByte(0, 0));
        index("unknown", RefusedTest::open, x -> x.unknown(0, -1));
    }

    private static void severalAtOnce() {
        index("set: index, state and argument", RefusedTest::rich, x -> x.set(0, 0, -1, 0));
        index("set: index and state", RefusedTest::rich, x -> x.set(2, -1, 0, 1));
        index("set: index and argument", RefusedTest::rich, x -> x.set(6, 6, -1, 6));
        state("set: state and argument", RefusedTest::rich, x -> x.set(0, -1, -1, 2001));
        state("set: state and too many tiles", RefusedTest::rich, x -> x.set(0, -1, -1, 2000));
        index("tilePart: index and no room", RefusedTest::full, x -> x.tilePart(1));
        index("byteOf: index and argument", RefusedTest::rich, x -> x.byteOf(3, 256));
        state("byteOf: state and argument", RefusedTest::rich, x -> x.byteOf(1, -1));
        argument("byteOf: argument and no room", RefusedTest::full, x -> x.byteOf(7, 256));
        argument("box: argument and no room", RefusedTest::full, x -> x.box(true, JP2C));
        index("boxByte: index and argument", RefusedTest::full, x -> x.boxByte(8, 256));
        argument("boxByte: argument and no room", RefusedTest::full, x -> x.boxByte(3, -1));
        argument("feed: argument and no room", RefusedTest::full, x -> x.feed(256));
        index("pass: index and argument", RefusedTest::rich, x -> x.pass(-1, -1));
        index("pass: index and no room", RefusedTest::full, x -> x.pass(x.told(3), 1));
        argument("pass: argument and no room", RefusedTest::full, x -> x.pass(0, -1));
        index("alter: index and argument", RefusedTest::rich, x -> x.alter(-1, 256));
        state("at: state and index", RefusedTest::open, x -> x.at(12, -1, -1));
        state("part: state and index", RefusedTest::open, x -> x.part(-1, 9));
        state("partByte: state and index", RefusedTest::open, x -> x.partByte(-1, -1));
    }
}
