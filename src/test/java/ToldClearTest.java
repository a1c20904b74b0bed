/** Promises 19 and 20: told, clear. */
public final class ToldClearTest {
    public static void main(String[] args) {
        atFirst(new WaveFiles(5, 4));
        WaveFiles x = filled();
        int[] want = {6, 3, 2, x.told(3), x.told(3), 3, 1, 1, 3};
        for (int what = 0; what < want.length; what++) {
            Check.due("told(" + what + ")", x.told(what), want[what]);
        }
        Check.due("told(3) is what write answered", x.told(3), x.write());
        Check.due("told(9)", x.told(9), -1);
        Check.due("told(-1)", x.told(-1), -1);
        Check.due("told(least)", x.told(Integer.MIN_VALUE), -1);
        x.cut(2);
        Check.due("a broken read", x.read(), -1);
        for (int what = 5; what <= 8; what++) {
            Check.due("told(" + what + ") behind it", x.told(what), 0);
        }
        WaveFiles y = filled();
        y.clear();
        atFirst(y);
        y.clear();
        atFirst(y);
        clearedShowsWhatANewOneShows();
        Check.finish();
    }

    private static void clearedShowsWhatANewOneShows() {
        String first = Show.all(new WaveFiles(5, 4));
        WaveFiles x = filled();
        Check.yes("there is something to clear", !Show.all(filled()).equals(first));
        x.clear();
        Check.yes("all is as at first", Show.all(x).equals(first));
        x.clear();
        Check.yes("and again", Show.all(x).equals(first));
        WaveFiles broken = filled();
        broken.cut(broken.part(0, 1));
        Check.yes("a broken read", broken.read() < 0);
        Check.yes("that met boxes", broken.told(6) > 0);
        broken.clear();
        Check.yes("all is as at first", Show.all(broken).equals(first));
        WaveFiles empty = new WaveFiles(5, 4);
        empty.clear();
        Check.yes("a new one stays as it is", Show.all(empty).equals(first));
        WaveFiles wide = new WaveFiles(2001, -1);
        wide.set(0, -1, -1, 3);
        wide.clear();
        Check.yes("the tile's sides stay", Show.all(wide).equals(Show.all(new WaveFiles(2000, 1))));
    }

    private static WaveFiles filled() {
        WaveFiles x = new WaveFiles(5, 4);
        x.set(0, -1, -1, 12);
        x.set(1, -1, -1, 5);
        x.set(2, -1, -1, 2);
        x.set(3, -1, -1, 9);
        x.set(4, -1, -1, 2);
        x.set(6, 3, 1, 2);
        x.set(10, -1, 1, 3);
        for (int part = 0; part < 3; part++) {
            x.tilePart(part);
            x.packet(part);
            x.packet(part);
            x.byteOf(part, part);
        }
        x.packet(0);
        x.box(true, Build.kind("colr"));
        for (int i = 0; i < 7; i++) {
            x.boxByte(0, 1);
        }
        x.box(false, Build.kind("res "));
        int n = x.write();
        x.pass(0, n);
        x.read();
        // The tile of the second part becomes one that is none.
        x.alter(x.part(1, 1) + 4, 1);
        x.read();
        // What is spoilt has no packets: those of the other two parts are three and two.
        Check.due("packets", x.told(8), 5);
        x.cut(x.part(2, 1) + 14);
        x.pass(x.part(2, 1) + 14, n);
        // The length of the last part's first packet goes up by one more than is there.
        x.alter(x.part(2, 1) + 17, 9);
        x.alter(x.part(2, 1) + 9, 99);
        Check.due("the last part is cut", x.read(), 3);
        return x;
    }

    private static void atFirst(WaveFiles x) {
        Check.due("tiles", x.told(0), 1);
        for (int what = 1; what <= 8; what++) {
            Check.due("told(" + what + ")", x.told(what), 0);
        }
        Check.dueState("at", () -> x.at(0, 0, 0));
        Check.dueState("part", () -> x.part(0, 0));
        Check.dueState("partByte", () -> x.partByte(0, 0));
        Check.dueIndex("unknown", () -> x.unknown(0, -1));
        Check.dueIndex("byteAt", () -> x.byteAt(0));
        Check.dueIndex("pass", () -> x.pass(0, 0));
        Check.dueIndex("alter", () -> x.alter(0, 0));
        Check.dueIndex("packet", () -> x.packet(0));
        Check.dueIndex("boxByte", () -> x.boxByte(0, 0));
        Check.due("read", x.read(), -1);
        int[] first = {5, 4, 1, 8, 0, 1, 5, 4, 1, 8, 2};
        for (int what = 0; what < first.length; what++) {
            Check.due("setting " + what, x.set(what, -1, -1, first[what]), first[what]);
        }
        Check.due("nothing is fixed, and depths are all 8", x.set(2, -1, -1, 4), 1);
        for (int c = 0; c < 4; c++) {
            Check.due("depth", x.set(3, -1, c, 8), 8);
        }
        x.set(2, -1, -1, 1);
        int n = x.write();
        Check.due("a plain file", n, 12 + 20 + 30 + 8 + 2 + 43 + 14 + 7 + 2);
        x.clear();
    }
}
