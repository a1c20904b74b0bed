/** Promises 3 to 7: tilePart, packet, byteOf, box, boxByte. */
public final class MakingTest {
    public static void main(String[] args) {
        tileParts();
        packets();
        bytes();
        boxes();
        boxBytes();
        Check.finish();
    }

    private static void tileParts() {
        WaveFiles x = new WaveFiles(5, 5);
        x.set(0, -1, -1, 11);
        Check.dueIndex("tile -1", () -> x.tilePart(-1));
        Check.dueIndex("tile 3", () -> x.tilePart(3));
        for (int i = 0; i < 40; i++) {
            Check.due("tilePart", x.tilePart(i % 3), i);
        }
        Check.dueNoRoom("the 41st", () -> x.tilePart(0));
        Check.dueIndex("index before room", () -> x.tilePart(3));
        Check.due("told", x.told(1), 40);
    }

    private static void packets() {
        WaveFiles x = new WaveFiles(5, 5);
        Check.dueIndex("no part", () -> x.packet(0));
        x.tilePart(0);
        x.tilePart(0);
        Check.dueIndex("part -1", () -> x.packet(-1));
        Check.dueIndex("part 2", () -> x.packet(2));
        for (int i = 1; i <= 20; i++) {
            Check.due("packet", x.packet(1), i);
        }
        Check.dueNoRoom("the 21st", () -> x.packet(1));
        Check.due("of the other part", x.packet(0), 1);
        Check.due("a byte of the last of 20", x.byteOf(1, 7), 1);
    }

    private static void bytes() {
        WaveFiles x = new WaveFiles(5, 5);
        Check.dueIndex("no part", () -> x.byteOf(0, 1));
        x.tilePart(0);
        Check.dueIndex("part 1", () -> x.byteOf(1, 1));
        Check.dueIndex("part -1, and no byte", () -> x.byteOf(-1, 256));
        Check.dueState("no packet", () -> x.byteOf(0, 1));
        Check.dueState("state before argument", () -> x.byteOf(0, 256));
        x.packet(0);
        Check.dueArgument("256", () -> x.byteOf(0, 256));
        Check.dueArgument("-1", () -> x.byteOf(0, -1));
        for (int i = 1; i <= 300; i++) {
            Check.due("byteOf", x.byteOf(0, i == 1 ? 0 : 255), i);
            if (i == 100) {
                x.packet(0);
            }
        }
        Check.dueNoRoom("the 301st", () -> x.byteOf(0, 7));
        Check.dueArgument("argument before room", () -> x.byteOf(0, 256));
        Check.due("a packet has room still", x.packet(0), 3);
        Check.dueNoRoom("but no byte", () -> x.byteOf(0, 7));
        x.write();
        x.pass(0, 20000);
        Check.due("read", x.read(), 1);
        Check.due("bytes", x.part(0, 2), 300);
        Check.due("packets", x.part(0, 3), 3);
    }

    private static void boxes() {
        WaveFiles x = new WaveFiles(5, 5);
        for (String own : new String[] {"jP  ", "ftyp", "jp2h", "ihdr", "jp2c"}) {
            Check.dueArgument(own, () -> x.box(true, Build.kind(own)));
            Check.dueArgument(own, () -> x.box(false, Build.kind(own)));
        }
        int[] none = {0, 31, -1, 0x1F202020, 0x201F2020, 0x20201F20, 0x2020201F, 0x7F202020, 0x207F2020, 0x20207F20,
            0x2020207F, 0x80202020, Integer.MIN_VALUE, Integer.MAX_VALUE};
        for (int kind : none) {
            Check.dueArgument("kind " + kind, () -> x.box(false, kind));
        }
        Check.due("blanks", x.box(true, 0x20202020), 0);
        Check.due("tildes", x.box(false, 0x7E7E7E7E), 1);
        Check.due("colr", x.box(true, Build.kind("colr")), 2);
        for (int i = 3; i < 8; i++) {
            Check.due("box", x.box(i % 2 == 0, Build.kind("res ")), i);
        }
        Check.dueNoRoom("the ninth", () -> x.box(true, Build.kind("res ")));
        Check.dueArgument("argument before room", () -> x.box(true, Build.kind("jp2c")));
        Check.due("told", x.told(2), 8);
    }

    private static void boxBytes() {
        WaveFiles x = new WaveFiles(5, 5);
        Check.dueIndex("no box", () -> x.boxByte(0, 1));
        x.box(true, Build.kind("res "));
        x.box(false, Build.kind("res "));
        Check.dueIndex("box -1", () -> x.boxByte(-1, 1));
        Check.dueIndex("box 2, and no byte", () -> x.boxByte(2, 256));
        Check.dueArgument("256", () -> x.boxByte(1, 256));
        Check.dueArgument("-1", () -> x.boxByte(1, -1));
        for (int i = 1; i <= 40; i++) {
            Check.due("boxByte", x.boxByte(1, 255), i);
        }
        Check.dueNoRoom("the 41st", () -> x.boxByte(1, 0));
        Check.dueArgument("argument before room", () -> x.boxByte(1, 256));
        Check.due("of the other box", x.boxByte(0, 0), 1);
    }
}
