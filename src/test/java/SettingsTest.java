/** Promises 1 and 2: a new object, and set. */
public final class SettingsTest {
    private static final int[] LEAST = {1, 1, 1, 1, 0, 1, 0, 2, 0, 0, 0};
    private static final int[] GREATEST = {2000, 2000, 4, 16, 4, 1000, 5, 6, 1, 31, 7};
    private static final int[] AT_FIRST = {2000, 2000, 1, 8, 0, 1, 5, 4, 1, 8, 2};

    public static void main(String[] args) {
        newObject();
        boundsOfAll();
        placesThatAreNone();
        tilesAtMost();
        depths();
        inForce();
        sizesAreFixed();
        orderOfExceptions();
        Check.finish();
    }

    private static void newObject() {
        Check.due("width 7", new WaveFiles(7, 9).set(0, -1, -1, 7), 7);
        Check.due("height 9", new WaveFiles(7, 9).set(1, -1, -1, 9), 9);
        Check.due("width 0", new WaveFiles(0, 9).set(0, -1, -1, 1), 1);
        Check.due("width -5", new WaveFiles(Integer.MIN_VALUE, 9).set(0, -1, -1, 1), 1);
        Check.due("height 2001", new WaveFiles(1, 2001).set(1, -1, -1, 1), 2000);
        Check.due("height greatest", new WaveFiles(1, Integer.MAX_VALUE).set(1, -1, -1, 1), 2000);
        Check.due("width 2000", new WaveFiles(2000, 1).set(0, -1, -1, 1), 2000);
        Check.due("tiles", new WaveFiles(0, 5000).told(0), 1);
    }

    private static void boundsOfAll() {
        for (int w = 0; w < LEAST.length; w++) {
            int what = w;
            WaveFiles x = new WaveFiles(2000, 2000);
            Check.dueArgument("set(" + what + ") below", () -> x.set(what, -1, -1, LEAST[what] - 1));
            Check.dueArgument("set(" + what + ") above", () -> x.set(what, -1, -1, GREATEST[what] + 1));
            Check.dueArgument("set(" + what + ") lowest", () -> x.set(what, -1, -1, Integer.MIN_VALUE));
            Check.dueArgument("set(" + what + ") highest", () -> x.set(what, -1, -1, Integer.MAX_VALUE));
            Check.due("set(" + what + ") least", x.set(what, -1, -1, LEAST[what]), AT_FIRST[what]);
            Check.due("set(" + what + ") greatest", x.set(what, -1, -1, GREATEST[what]), LEAST[what]);
            Check.due("set(" + what + ") again", x.set(what, -1, -1, LEAST[what]), GREATEST[what]);
        }
    }

    private static void placesThatAreNone() {
        WaveFiles x = new WaveFiles(5, 5);
        x.set(0, -1, -1, 10);
        x.set(2, -1, -1, 2);
        for (int w = 0; w <= 10; w++) {
            int what = w;
            Check.dueIndex(what + " of tile 2", () -> x.set(what, 2, -1, 1));
            Check.dueIndex(what + " of tile -2", () -> x.set(what, -2, -1, 1));
            Check.dueIndex(what + " of component 2", () -> x.set(what, -1, 2, 1));
            Check.dueIndex(what + " of component -2", () -> x.set(what, -1, -2, 1));
            if (what <= 3) {
                Check.dueIndex(what + " of tile 0", () -> x.set(what, 0, -1, 1));
            }
            if (what <= 2 || what == 4 || what == 5) {
                Check.dueIndex(what + " of component 0", () -> x.set(what, -1, 0, 1));
            }
        }
        Check.dueIndex("what -1", () -> x.set(-1, -1, -1, 1));
        Check.dueIndex("what 11", () -> x.set(11, -1, -1, 1));
        Check.dueIndex("order of a component of a tile", () -> x.set(4, 0, 0, 1));
        Check.due("nothing was fixed by it", x.set(0, -1, -1, 10), 10);
    }

    private static void tilesAtMost() {
        WaveFiles x = new WaveFiles(10, 10);
        Check.due("24 in a row", x.set(0, -1, -1, 240), 10);
        Check.due("told", x.told(0), 24);
        Check.dueArgument("25 in a row", () -> x.set(0, -1, -1, 241));
        Check.dueArgument("two rows of 24", () -> x.set(1, -1, -1, 11));
        Check.due("nothing changed", x.set(0, -1, -1, 51), 240);
        Check.due("six in a row", x.told(0), 6);
        Check.due("four rows", x.set(1, -1, -1, 40), 10);
        Check.due("24 again", x.told(0), 24);
        Check.dueArgument("five rows", () -> x.set(1, -1, -1, 41));
    }

    private static void depths() {
        WaveFiles x = new WaveFiles(10, 10);
        Check.due("depth of 0", x.set(3, -1, 0, 5), 8);
        Check.due("depth for all", x.set(3, -1, -1, 6), 5);
        x.set(2, -1, -1, 4);
        Check.due("depth of 3, set before it was there", x.set(3, -1, 3, 7), 6);
        x.set(2, -1, -1, 2);
        Check.dueIndex("depth of 3, which is gone", () -> x.set(3, -1, 3, 9));
        x.set(2, -1, -1, 4);
        Check.due("depth of 3 stayed", x.set(3, -1, 3, 8), 7);
        Check.due("depths fix nothing", x.set(0, -1, -1, 20), 10);
    }

    private static void inForce() {
        WaveFiles x = new WaveFiles(5, 5);
        x.set(0, -1, -1, 10);
        x.set(2, -1, -1, 2);
        Check.due("of component 1", x.set(6, -1, 1, 4), 5);
        Check.due("for all, as it was", x.set(6, -1, -1, 3), 5);
        Check.due("of component 1, its own", x.set(6, -1, 1, 2), 4);
        Check.due("of tile 0 and component 1: the component's", x.set(6, 0, 1, 1), 2);
        Check.due("of tile 1: that for all", x.set(6, 1, -1, 0), 3);
        Check.due("of tile 1 and component 1: the tile's", x.set(6, 1, 1, 5), 0);
        Check.due("block of tile 1 and component 1, made with it", x.set(7, 1, 1, 6), 4);
        Check.due("block for all", x.set(7, -1, -1, 2), 4);
        Check.due("block of tile 1, as it was when it was made", x.set(7, 1, -1, 3), 4);
        Check.due("block of tile 0 and component 0: that for all", x.set(7, 0, 0, 4), 2);
        Check.due("guard is in no style: for all", x.set(10, 1, 1, 7), 2);
        Check.due("exponent came with guard", x.set(9, 1, 1, 30), 8);
        Check.due("order of tile 1, made with its levels", x.set(4, 1, -1, 4), 0);
        Check.due("layers for all", x.set(5, -1, -1, 9), 1);
        Check.due("layers of tile 1, as they were", x.set(5, 1, -1, 1000), 1);
        Check.due("layers of tile 0, which has no style of its own", x.set(5, 0, -1, 8), 9);
    }

    private static void sizesAreFixed() {
        WaveFiles x = new WaveFiles(5, 5);
        for (int what = 4; what <= 10; what++) {
            x.set(what, -1, -1, 2 - what / 8);
        }
        Check.due("those for all fix nothing", x.set(2, -1, -1, 2), 1);
        Check.dueArgument("a wrong one fixes nothing", () -> x.set(6, -1, 0, 6));
        Check.due("so it can be set", x.set(2, -1, -1, 1), 2);
        x.set(9, -1, 0, 8);
        for (int w = 0; w <= 2; w++) {
            int what = w;
            Check.dueState("a segment of a component fixes " + what, () -> x.set(what, -1, -1, 1));
        }
        WaveFiles y = new WaveFiles(5, 5);
        y.set(4, 0, -1, 0);
        Check.dueState("a segment of a tile fixes", () -> y.set(1, -1, -1, 5));
        WaveFiles z = new WaveFiles(5, 5);
        z.tilePart(0);
        Check.dueState("a tile part fixes", () -> z.set(2, -1, -1, 1));
        Check.due("but no depth", z.set(3, -1, 0, 9), 8);
        Check.due("nor a segment", z.set(4, 0, -1, 3), 0);
    }

    private static void orderOfExceptions() {
        WaveFiles x = new WaveFiles(5, 5);
        x.tilePart(0);
        Check.dueIndex("index before state", () -> x.set(0, 0, -1, 5));
        Check.dueState("state before argument", () -> x.set(0, -1, -1, 0));
        Check.dueIndex("index before argument", () -> x.set(6, 1, -1, 99));
    }
}
