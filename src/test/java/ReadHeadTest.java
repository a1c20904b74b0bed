/** Promises 14 and 15, where they speak of the stream's head: read, at. */
public final class ReadHeadTest {
    /** Where the head of Build.head() has its sizes, its style and its step, and where it ends. */
    private static final int SIZES = 2;
    private static final int STYLE = 48;
    private static final int STEP = 62;
    private static final int END = 69;

    public static void main(String[] args) {
        Check.due("the head's bytes", Build.head().size(), END);
        missing();
        brokenSizes();
        brokenStyles();
        brokenSteps();
        otherCodes();
        cutAnywhere();
        settingsRead();
        placesAsked();
        latestCounts();
        nothingRead();
        Check.finish();
    }

    private static void due(String name, Build fed, int want) {
        Check.due(name, fed.fed().read(), want);
    }

    private static Build sizes() {
        return new Build().begin().sizes(10, 8, 5, 4, 8, 12);
    }

    private static void missing() {
        due("255 79 alone", new Build().begin(), -1 - 2);
        due("style where sizes must be", new Build().begin().style(0, 1, 5, 4, 1), -1 - 2);
        due("no style, no step", sizes().end(), -1 - STYLE);
        due("no step", sizes().style(0, 1, 5, 4, 1).end(), -1 - STEP);
        due("no style", sizes().step(8, 2).end(), -1 - STYLE - 7);
        due("those of components are not those for all", sizes().styleOf(0, 5, 4, 1).stepOf(0, 8, 2).end(),
                -1 - STYLE - 19);
        due("no style before the first part", sizes().step(8, 2).part(0, 0, new Build().style(0, 1, 5, 4, 1)),
                -1 - STYLE - 7);
        due("no end", Build.head(), -1 - END);
        due("half an end", Build.head().bytes(255), -1 - END);
        due("an end", Build.head().end(), 0);
        due("the beginning of a part is an end", Build.head().bytes(255, 144), 0);
        due("the step before the style", sizes().step(8, 2).style(0, 1, 5, 4, 1).end(), 0);
        due("not 255", Build.head().bytes(254, 217), -1 - END);
    }

    private static void brokenSizes() {
        int ok = 0;
        int no = -1 - SIZES;
        long[][] sides = {{1, 1, 1, 1}, {2000, 2000, 65536, 65536}, {2000, 1, 84, 1}, {24, 1, 1, 65536}};
        long[][] wrongSides = {{0, 8, 5, 4}, {10, 0, 5, 4}, {10, 8, 0, 4}, {10, 8, 5, 0}, {2001, 8, 2000, 4},
            {10, 2001, 5, 2000}, {10, 8, 65537, 4}, {10, 8, 5, 65537}, {25, 1, 1, 1}, {5, 5, 1, 1},
            {0xFFFFFFFFL, 8, 5, 4}, {10, 0x80000001L, 5, 4}, {10, 8, 0xFFFFFFFFL, 4}, {10, 8, 5, 0x80000004L},
            {2000, 2000, 1, 1}};
        Build rest = new Build().style(0, 1, 5, 4, 1).step(8, 2).end();
        for (long[] s : sides) {
            due("sides", new Build().begin().sizes(s[0], s[1], s[2], s[3], 8).add(rest), ok);
        }
        for (long[] s : wrongSides) {
            due("wrong sides", new Build().begin().sizes(s[0], s[1], s[2], s[3], 8).add(rest), no);
        }
        due("depths 1 and 16", new Build().begin().sizes(9, 9, 9, 9, 1, 16).add(rest), ok);
        due("depth 17", new Build().begin().sizes(9, 9, 9, 9, 8, 17).add(rest), no);
        due("depth 256", new Build().begin().sizes(9, 9, 9, 9, 256, 8).add(rest), no);
        due("four", new Build().begin().sizes(9, 9, 9, 9, 8, 8, 8, 8).add(rest), ok);
        due("five", new Build().begin().sizes(9, 9, 9, 9, 8, 8, 8, 8, 8).add(rest), no);
        due("none", new Build().begin().sizes(9, 9, 9, 9).add(rest), no);
        int[] fixed = {4, 5, 14, 15, 16, 17, 18, 19, 20, 21, 30, 31, 32, 33, 34, 35, 36, 37, 41, 42, 44, 45};
        for (int at : fixed) {
            Build fed = Build.head().end();
            due("byte " + at + " of the sizes", fed.alter(SIZES + at, fed.get(SIZES + at) + 1), no);
        }
        due("another length", Build.head().end().alter(SIZES + 3, 43), no);
        due("another length", Build.head().end().alter(SIZES + 3, 45), no);
        due("length 0", Build.head().end().alter(SIZES + 3, 0), no);
        due("another number of components", Build.head().end().alter(SIZES + 39, 1), no);
    }

    private static void brokenStyles() {
        int no = -1 - END;
        int[][] wrong = {{5, 1, 5, 4, 1}, {0, 0, 5, 4, 1}, {0, 1001, 5, 4, 1}, {0, 1, 6, 4, 1}, {0, 1, 5, 7, 1},
            {0, 1, 5, 4, 2}, {255, 1, 5, 4, 1}, {0, 65535, 5, 4, 1}};
        for (int[] w : wrong) {
            due("wrong style", Build.head().style(w[0], w[1], w[2], w[3], w[4]).end(), no);
        }
        due("least", Build.head().style(0, 1, 0, 2, 0).end(), 0);
        due("greatest", Build.head().style(4, 1000, 5, 6, 1).end(), 0);
        due("greatest of a component", Build.head().styleOf(1, 5, 6, 1).end(), 0);
        due("least of a component", Build.head().styleOf(0, 0, 2, 0).end(), 0);
        due("component 2", Build.head().styleOf(2, 5, 4, 1).end(), no);
        due("component 255", Build.head().styleOf(255, 5, 4, 1).end(), no);
        due("levels 6", Build.head().styleOf(0, 6, 4, 1).end(), no);
        due("block 7", Build.head().styleOf(0, 5, 7, 1).end(), no);
        due("waves 2", Build.head().styleOf(0, 5, 4, 2).end(), no);
        for (int at : new int[] {4, 8, 12}) {
            due("byte " + at + " is no 0", Build.head().end().alter(STYLE + at, 1), -1 - STYLE);
        }
        for (int at : new int[] {5, 9}) {
            Build fed = Build.head().styleOf(0, 5, 4, 1).end();
            due("byte " + at + " of a component is no 0", fed.alter(END + at, 1), no);
        }
        due("the first block is another", Build.head().end().alter(STYLE + 10, 3), -1 - STYLE);
        due("the second block is another", Build.head().end().alter(STYLE + 11, 3), -1 - STYLE);
        due("too short", Build.head().bytes(255, 82).two(11).bytes(0, 0, 0, 1, 0, 5, 2, 2, 0).end(), no);
        due("too long", Build.head().bytes(255, 82).two(13).bytes(0, 0, 0, 1, 0, 5, 2, 2, 0, 1, 0).end(), no);
        due("too short of a component", Build.head().bytes(255, 83).two(8).bytes(0, 0, 5, 2, 2, 0).end(), no);
        due("too long of a component", Build.head().bytes(255, 83).two(10).bytes(0, 0, 5, 2, 2, 0, 1, 1).end(), no);
    }

    private static void brokenSteps() {
        int no = -1 - END;
        due("least", Build.head().step(0, 0).stepOf(1, 0, 0).end(), 0);
        due("greatest", Build.head().step(31, 7).stepOf(1, 31, 7).end(), 0);
        due("component 2", Build.head().stepOf(2, 8, 2).end(), no);
        due("no 1 behind the guard", Build.head().end().alter(STEP + 4, 64), -1 - STEP);
        due("3 behind the guard", Build.head().end().alter(STEP + 4, 67), -1 - STEP);
        due("something behind the exponent", Build.head().end().alter(STEP + 6, 1), -1 - STEP);
        due("something behind the exponent", Build.head().end().alter(STEP + 5, 65), -1 - STEP);
        due("something behind that of a component", Build.head().stepOf(0, 8, 2).end().alter(END + 7, 1), no);
        due("guard of a component", Build.head().stepOf(0, 8, 2).end().alter(END + 5, 0), no);
        due("too long", Build.head().bytes(255, 92).two(6).bytes(65, 64, 0, 0).end(), no);
        due("too short", Build.head().bytes(255, 92).two(4).bytes(65, 64).end(), no);
        due("too long of a component", Build.head().bytes(255, 93).two(7).bytes(0, 65, 64, 0, 0).end(), no);
        due("too short of a component", Build.head().bytes(255, 93).two(5).bytes(0, 65, 64).end(), no);
    }

    private static void otherCodes() {
        int no = -1 - END;
        for (int code : new int[] {0, 79, 81, 88, 100, 147, 255}) {
            due("code " + code, Build.head().bytes(255, code).two(5).bytes(255, 217, 9).end(), 0);
            due("code " + code + " without bytes", Build.head().bytes(255, code).two(2).end(), 0);
            due("code " + code + " at the very end", Build.head().bytes(255, code).two(2), -1 - END - 4);
            due("code " + code + ", length 1", Build.head().bytes(255, code).two(1).bytes(0).end(), no);
            due("code " + code + ", length 0", Build.head().bytes(255, code).two(0).end(), no);
            due("code " + code + " beyond the end", Build.head().bytes(255, code).two(5).end(), no);
            due("code " + code + " up to the end", Build.head().bytes(255, code).two(4).end(), -1 - END - 6);
        }
        WaveFiles x = Build.head().sizes(1, 1, 1, 1, 3).end().fed();
        x.read();
        Check.due("later sizes count for nothing", x.at(0, 0, 0), 10);
    }

    private static void cutAnywhere() {
        WaveFiles x = Build.head().end().fed();
        for (int n = END + 1; n >= 2; n--) {
            x.cut(n);
            int place = n >= END ? END : n >= STEP ? STEP : n >= STYLE ? STYLE : SIZES;
            Check.due("cut behind " + n, x.read(), -1 - place);
        }
        x.cut(1);
        Check.due("cut behind 1", x.read(), -1);
    }

    private static void settingsRead() {
        WaveFiles x = sizes().styleOf(1, 2, 3, 0).stepOf(0, 20, 1).style(4, 999, 4, 5, 1).step(9, 3)
                .part(3, 0, new Build().style(2, 7, 1, 6, 0).stepOf(1, 30, 6))
                .part(2, 0, new Build().styleOf(1, 3, 2, 1).step(0, 0)).end().fed();
        Check.due("read", x.read(), 2);
        int[] tiles = {0, 0, 3, 3, 2, 2};
        int[][] want = {
            {10, 8, 2, 8, 4, 999, 4, 5, 1, 20, 1}, {10, 8, 2, 12, 4, 999, 2, 3, 0, 9, 3},
            {10, 8, 2, 8, 2, 7, 1, 6, 0, 20, 1}, {10, 8, 2, 12, 2, 7, 1, 6, 0, 30, 6},
            {10, 8, 2, 8, 4, 999, 4, 5, 1, 0, 0}, {10, 8, 2, 12, 4, 999, 3, 2, 1, 0, 0}};
        for (int i = 0; i < tiles.length; i++) {
            for (int what = 0; what <= 10; what++) {
                Check.due("at(" + what + ", " + tiles[i] + ", " + i % 2 + ")", x.at(what, tiles[i], i % 2),
                        want[i][what]);
            }
        }
        Check.due("the object's own settings stay", x.told(0), 1);
        Check.due("the object's own settings stay", x.set(5, -1, -1, 3), 1);
        Check.due("and change nothing that was read", x.at(5, 0, 0), 999);
    }

    private static void placesAsked() {
        WaveFiles x = Build.head().end().fed();
        x.read();
        for (int w = 0; w <= 11; w++) {
            int what = w;
            boolean byTile = what >= 4 && what <= 10;
            boolean byComponent = what == 3 || what >= 6 && what <= 10;
            for (int wrong : new int[] {-1, 4, 24, 99, Integer.MIN_VALUE, Integer.MAX_VALUE}) {
                if (byTile) {
                    Check.dueIndex("tile " + wrong + " of " + what, () -> x.at(what, wrong, 0));
                } else {
                    Check.due("tile " + wrong + " of " + what, x.at(what, wrong, 0), x.at(what, 0, 0));
                }
                if (byComponent) {
                    Check.dueIndex("component " + wrong + " of " + what, () -> x.at(what, 0, wrong));
                } else {
                    Check.due("component " + wrong + " of " + what, x.at(what, 0, wrong), x.at(what, 0, 0));
                }
            }
        }
        Check.dueIndex("component 2", () -> x.at(3, 0, 2));
        Check.dueIndex("what -1", () -> x.at(-1, 0, 0));
        Check.dueIndex("what 12", () -> x.at(12, 0, 0));
    }

    private static void latestCounts() {
        WaveFiles x = Build.head().styleOf(0, 1, 2, 0).styleOf(0, 2, 3, 1).style(3, 4, 0, 2, 0).step(1, 1)
                .stepOf(1, 2, 2).stepOf(1, 3, 3).end().fed();
        x.read();
        Check.due("order", x.at(4, 0, 0), 3);
        Check.due("levels of 0", x.at(6, 0, 0), 2);
        Check.due("levels of 1", x.at(6, 0, 1), 0);
        Check.due("exponent of 0", x.at(9, 0, 0), 1);
        Check.due("exponent of 1", x.at(9, 0, 1), 3);
        x.cut(0);
        Build.head().end().fedTo(x);
        x.read();
        Check.due("a new read knows nothing of the old one", x.at(6, 0, 0), 5);
        Check.due("a new read knows nothing of the old one", x.at(9, 0, 1), 8);
    }

    private static void nothingRead() {
        WaveFiles x = Build.head().end().fed();
        Check.dueState("before a read", () -> x.at(99, 0, 0));
        x.read();
        Check.due("behind it", x.at(0, 0, 0), 10);
        x.alter(0, 1);
        x.cut(5);
        Check.due("it stays till the next one", x.at(0, 0, 0), 10);
        Check.due("which breaks", x.read(), -1);
        Check.dueState("so nothing is read", () -> x.at(0, 0, 0));
        Check.dueState("state before index", () -> x.at(-1, 0, 0));
    }
}
