/**
 * Promises 1 and 2 at their bounds, by the sentences of 'Terms': each SETTING at each place at its least and greatest,
 * one below and one above; the most TILES; what is IN FORCE, and what a SEGMENT is made with.
 */
public final class BoundsTest {
    private static final int[] LEAST = {1, 1, 1, 1, 0, 1, 0, 2, 0, 0, 0};
    private static final int[] GREATEST = {2000, 2000, 4, 16, 4, 1000, 5, 6, 1, 31, 7};
    private static final int[] AT_FIRST = {0, 0, 1, 8, 0, 1, 5, 4, 1, 8, 2};
    /** Places of segments: for all, of a component, of a tile, of both. */
    private static final int[][] PLACES = {{-1, -1}, {-1, 1}, {1, -1}, {1, 1}};

    public static void main(String[] args) {
        theTilesSides();
        atFirst();
        depthOfEachComponent();
        numbersAtEachPlace();
        asManyTilesAsItTakes();
        twentyFourTiles();
        lastTileAndComponent();
        componentsThatComeAndGo();
        depthForAll();
        eachLevelInForce();
        orderAndLayersOfTilesAlone();
        madeWithWhatWasInForce();
        whatFixesTheSizes();
        boundsComeBackWhenRead();
        Check.finish();
    }

    /** Two tiles in a row, two components. */
    private static WaveFiles plain() {
        WaveFiles x = new WaveFiles(5, 5);
        x.set(0, -1, -1, 10);
        x.set(2, -1, -1, 2);
        return x;
    }

    /** "The tile's width and height, 1 .. 2000 (others count as the nearest)." */
    private static void theTilesSides() {
        int[] given = {Integer.MIN_VALUE, -1, 0, 1, 2, 1999, 2000, 2001, Integer.MAX_VALUE};
        int[] want = {1, 1, 1, 1, 2, 1999, 2000, 2000, 2000};
        for (int i = 0; i < given.length; i++) {
            WaveFiles wide = new WaveFiles(given[i], 7);
            WaveFiles high = new WaveFiles(7, given[i]);
            dueSides(wide, want[i], 7);
            dueSides(high, 7, want[i]);
        }
    }

    /** A plain file has its stream behind 70 bytes of boxes. */
    private static void dueSides(WaveFiles x, int width, int height) {
        Check.due("one tile", x.told(0), 1);
        x.write();
        int stream = 70;
        Check.due("WIDTH written", number4(x, stream + 8), width);
        Check.due("HEIGHT written", number4(x, stream + 12), height);
        Check.due("the tile's width written", number4(x, stream + 24), width);
        Check.due("the tile's height written", number4(x, stream + 28), height);
        Check.due("WIDTH at first", x.set(0, -1, -1, 1), width);
        Check.due("HEIGHT at first", x.set(1, -1, -1, 1), height);
    }

    private static int number4(WaveFiles x, int i) {
        return x.byteAt(i) << 24 | x.byteAt(i + 1) << 16 | x.byteAt(i + 2) << 8 | x.byteAt(i + 3);
    }

    /** "at first one tile's; .. at first 1; .. at first 8", "at first 0, 1, 5, 4, 1", "at first 8, 2". */
    private static void atFirst() {
        WaveFiles x = new WaveFiles(3, 2);
        Check.due("WIDTH at first", x.set(0, -1, -1, 3), 3);
        Check.due("HEIGHT at first", x.set(1, -1, -1, 2), 2);
        for (int what = 2; what <= 10; what++) {
            Check.due(what + " at first", x.set(what, -1, -1, AT_FIRST[what]), AT_FIRST[what]);
        }
        x.set(2, -1, -1, 4);
        for (int c = 0; c < 4; c++) {
            Check.due("DEPTH at first of " + c, x.set(3, -1, c, 8), 8);
        }
    }

    /** "3 DEPTH of a component, 1 .. 16". */
    private static void depthOfEachComponent() {
        WaveFiles x = new WaveFiles(3, 2);
        x.set(2, -1, -1, 4);
        for (int c = 0; c < 4; c++) {
            int component = c;
            Check.dueArgument("DEPTH 0", () -> x.set(3, -1, component, 0));
            Check.dueArgument("DEPTH 17", () -> x.set(3, -1, component, 17));
            Check.due("DEPTH 1", x.set(3, -1, c, 1), 8);
            Check.due("DEPTH 16", x.set(3, -1, c, 16), 1);
            Check.due("it stayed", x.set(3, -1, c, 16), 16);
        }
    }

    /** "4 ORDER, 0 .. 4; 5 LAYERS, 1 .. 1000; 6 LEVELS, 0 .. 5; .." for all, a component, a TILE, and both. */
    private static void numbersAtEachPlace() {
        for (int w = 4; w <= 10; w++) {
            for (int[] place : PLACES) {
                int what = w;
                if (what <= 5 && place[1] >= 0) {
                    continue;
                }
                String name = "set(" + what + ", " + place[0] + ", " + place[1] + ")";
                WaveFiles x = plain();
                Check.dueArgument(name + " below", () -> x.set(what, place[0], place[1], LEAST[what] - 1));
                Check.dueArgument(name + " above", () -> x.set(what, place[0], place[1], GREATEST[what] + 1));
                Check.due(name + " least", x.set(what, place[0], place[1], LEAST[what]), AT_FIRST[what]);
                Check.dueArgument(name + " above", () -> x.set(what, place[0], place[1], GREATEST[what] + 1));
                Check.due(name + " greatest", x.set(what, place[0], place[1], GREATEST[what]), LEAST[what]);
                Check.dueArgument(name + " below", () -> x.set(what, place[0], place[1], LEAST[what] - 1));
                Check.due(name + " again", x.set(what, place[0], place[1], LEAST[what]), GREATEST[what]);
            }
        }
    }

    /** "TILES lie row by row, each of the tile's width and height, as many as it takes". */
    private static void asManyTilesAsItTakes() {
        int[] widths = {1, 9, 10, 11, 19, 20, 21};
        int[] tiles = {1, 1, 1, 2, 2, 2, 3};
        for (int i = 0; i < widths.length; i++) {
            WaveFiles x = new WaveFiles(10, 10);
            x.set(0, -1, -1, widths[i]);
            Check.due("tiles for a width of " + widths[i], x.told(0), tiles[i]);
            WaveFiles y = new WaveFiles(10, 10);
            y.set(1, -1, -1, widths[i]);
            Check.due("tiles for a height of " + widths[i], y.told(0), tiles[i]);
            y.set(0, -1, -1, 21);
            Check.due("in rows of three", y.told(0), 3 * tiles[i]);
        }
    }

    /** "24 at most", and "IllegalArgument: also if there would be more than 24 TILES." */
    private static void twentyFourTiles() {
        int[][] sides = {{24, 1}, {12, 2}, {8, 3}, {6, 4}, {4, 6}, {3, 8}, {2, 12}, {1, 24}};
        for (int[] side : sides) {
            WaveFiles x = new WaveFiles(7, 3);
            x.set(0, -1, -1, 7 * side[0]);
            x.set(1, -1, -1, 3 * side[1]);
            Check.due("24 tiles", x.told(0), 24);
            Check.dueArgument("a column more", () -> x.set(0, -1, -1, 7 * side[0] + 1));
            Check.dueArgument("a row more", () -> x.set(1, -1, -1, 3 * side[1] + 1));
            Check.due("24 tiles still", x.told(0), 24);
            Check.due("a pixel less is none the fewer", x.set(0, -1, -1, 7 * side[0] - 1), 7 * side[0]);
            Check.due("24 tiles still", x.told(0), 24);
        }
        WaveFiles x = new WaveFiles(1, 1);
        Check.due("23 tiles", x.set(0, -1, -1, 23), 1);
        Check.dueArgument("25 tiles", () -> x.set(0, -1, -1, 25));
        Check.dueArgument("2000 tiles", () -> x.set(0, -1, -1, 2000));
        Check.due("24 tiles", x.set(0, -1, -1, 24), 23);
        WaveFiles y = new WaveFiles(1, 1);
        y.set(0, -1, -1, 5);
        Check.dueArgument("5 x 5 tiles", () -> y.set(1, -1, -1, 5));
        Check.dueArgument("5 x 2000 tiles", () -> y.set(1, -1, -1, 2000));
        Check.due("5 x 4 tiles", y.set(1, -1, -1, 4), 1);
    }

    /** "COMPONENTS are numbered from 0, as TILES are." */
    private static void lastTileAndComponent() {
        for (int components = 1; components <= 4; components++) {
            WaveFiles x = new WaveFiles(1, 1);
            x.set(0, -1, -1, 24);
            x.set(2, -1, -1, components);
            int none = components;
            Check.dueIndex("depth of a component that is none", () -> x.set(3, -1, none, 8));
            Check.dueIndex("levels of a component that is none", () -> x.set(6, -1, none, 5));
            Check.dueIndex("guard of both, the component none", () -> x.set(10, 23, none, 2));
            Check.dueIndex("guard of both, the tile none", () -> x.set(10, 24, 0, 2));
            Check.dueIndex("order of a tile that is none", () -> x.set(4, 24, -1, 0));
            Check.due("nothing is fixed by them", x.set(2, -1, -1, components), components);
            Check.due("guard of the last of both", x.set(10, 23, components - 1, 2), 2);
            Check.due("order of the last tile", x.set(4, 23, -1, 0), 0);
            Check.due("a part of the last tile", x.tilePart(23), 0);
            Check.dueIndex("a part of none", () -> x.tilePart(24));
        }
    }

    /** Components that are gone can't be set, and those that are there again are as they were. */
    private static void componentsThatComeAndGo() {
        WaveFiles x = new WaveFiles(5, 5);
        x.set(2, -1, -1, 4);
        for (int c = 0; c < 4; c++) {
            x.set(3, -1, c, c + 1);
        }
        x.set(2, -1, -1, 1);
        Check.dueIndex("component 1 is gone", () -> x.set(3, -1, 1, 8));
        Check.due("that of component 0 for all", x.set(3, -1, 0, 1), 1);
        x.set(2, -1, -1, 4);
        for (int c = 0; c < 4; c++) {
            Check.due("DEPTH of " + c + " stayed", x.set(3, -1, c, 8), c + 1);
        }
    }

    /** "of 3 for all: that of component 0; it is set for all four, also those that are not there, and stays". */
    private static void depthForAll() {
        WaveFiles x = new WaveFiles(5, 5);
        x.set(2, -1, -1, 2);
        x.set(3, -1, 1, 3);
        Check.due("for all: that of component 0", x.set(3, -1, -1, 16), 8);
        Check.due("component 1 has it", x.set(3, -1, 1, 2), 16);
        Check.due("for all: component 0 still", x.set(3, -1, -1, 11), 16);
        x.set(2, -1, -1, 4);
        for (int c = 0; c < 4; c++) {
            Check.due("DEPTH of " + c, x.set(3, -1, c, 8), 11);
        }
    }

    /** "that of both, else that of the TILE, else that of the component, else that for all". */
    private static void eachLevelInForce() {
        for (int what = 6; what <= 10; what++) {
            int low = LEAST[what];
            int high = GREATEST[what];
            WaveFiles x = plain();
            Check.due(what + " for all", x.set(what, -1, -1, low), AT_FIRST[what]);
            Check.due(what + " of the component: that for all", x.set(what, -1, 1, high), low);
            Check.due(what + " of both: that of the component", x.set(what, 0, 1, high), high);
            Check.due(what + " of the tile: that for all", x.set(what, 1, -1, low), low);
            Check.due(what + " of both: the tile's before the component's", x.set(what, 1, 1, high), low);
            Check.due(what + " of both: its own", x.set(what, 1, 1, low), high);
            Check.due(what + " of the tile and another component: the tile's", x.set(what, 1, 0, high), low);
            Check.due(what + " of the other tile and component: that for all", x.set(what, 0, 0, high), low);
            Check.due(what + " of the component stayed", x.set(what, -1, 1, high), high);
            Check.due(what + " for all stayed", x.set(what, -1, -1, low), low);
        }
    }

    /** "ORDER and LAYERS count in those for all and of a TILE alone." */
    private static void orderAndLayersOfTilesAlone() {
        for (int what = 4; what <= 5; what++) {
            WaveFiles x = plain();
            x.set(6, -1, 1, 3);
            x.set(6, 0, 1, 2);
            Check.due("for all", x.set(what, -1, -1, 3), AT_FIRST[what]);
            Check.due("of a tile with a segment of both alone: that for all", x.set(what, 0, -1, 2), 3);
            Check.due("of a tile: its own", x.set(what, 0, -1, 4), 2);
            Check.due("of the other: that for all", x.set(what, 1, -1, 4), 3);
        }
    }

    /** "makes one there, with what was IN FORCE there till then": later changes elsewhere are not for it. */
    private static void madeWithWhatWasInForce() {
        int[] before = {0, 0, 0, 0, 2, 77, 1, 3, 0, 20, 5};
        for (int[] place : PLACES) {
            if (place[0] < 0 && place[1] < 0) {
                continue;
            }
            WaveFiles x = plain();
            for (int what = 4; what <= 10; what++) {
                x.set(what, -1, -1, before[what]);
            }
            x.set(6, place[0], place[1], before[6]);
            x.set(9, place[0], place[1], before[9]);
            for (int what = 4; what <= 10; what++) {
                x.set(what, -1, -1, GREATEST[what]);
            }
            for (int what = place[1] < 0 ? 4 : 6; what <= 10; what++) {
                Check.due(what + " of " + place[0] + ", " + place[1], x.set(what, place[0], place[1], LEAST[what]),
                        before[what]);
            }
        }
        WaveFiles y = plain();
        y.set(6, -1, 1, 3);
        y.set(7, 0, 1, 2);
        y.set(6, -1, 1, 0);
        Check.due("made with the component's", y.set(6, 0, 1, 1), 3);
        y.set(9, 1, -1, 7);
        y.set(10, 1, 0, 1);
        y.set(9, 1, -1, 6);
        Check.due("made with the tile's", y.set(9, 1, 0, 1), 7);
        Check.due("a STYLE makes no STEP", y.set(9, 0, 1, 1), 8);
        y.set(9, -1, -1, 5);
        Check.due("a STEP that there is none of", y.set(9, 0, 0, 1), 5);
    }

    /** "0 to 2 behind the first SEGMENT that is not for all, or the first tile part." */
    private static void whatFixesTheSizes() {
        for (int w = 4; w <= 10; w++) {
            for (int[] place : PLACES) {
                if (w <= 5 && place[1] >= 0) {
                    continue;
                }
                WaveFiles x = plain();
                x.set(w, place[0], place[1], AT_FIRST[w]);
                boolean fixed = place[0] >= 0 || place[1] >= 0;
                for (int s = 0; s <= 2; s++) {
                    int size = s;
                    if (fixed) {
                        Check.dueState(size + " behind " + w, () -> x.set(size, -1, -1, 2));
                    } else {
                        Check.due(size + " behind " + w, x.set(size, -1, -1, 2), size == 0 ? 10 : size == 1 ? 5 : 2);
                    }
                }
            }
        }
        WaveFiles y = plain();
        y.set(3, -1, 1, 4);
        y.box(true, 0x20202020);
        y.write();
        y.pass(0, 999);
        y.read();
        Check.dueIndex("no such tile", () -> y.tilePart(2));
        Check.due("nothing of that fixes the sizes", y.set(0, -1, -1, 5), 10);
        y.tilePart(0);
        for (int s = 0; s <= 2; s++) {
            int size = s;
            Check.dueState(size + " behind a part", () -> y.set(size, -1, -1, 1));
        }
        y.clear();
        Check.due("clear frees them", y.set(0, -1, -1, 10), 5);
    }

    /** Each SETTING at its least and greatest, at each place, is told again when the file is read. */
    private static void boundsComeBackWhenRead() {
        for (int[] bound : new int[][] {LEAST, GREATEST}) {
            for (int[] place : PLACES) {
                WaveFiles x = new WaveFiles(1000, 1000);
                x.set(0, -1, -1, place[0] < 0 ? bound[0] : 2000);
                x.set(1, -1, -1, bound[1]);
                x.set(2, -1, -1, place[1] < 0 ? bound[2] : 2);
                x.set(3, -1, -1, bound[3]);
                for (int what = 4; what <= 10; what++) {
                    x.set(what, place[0], what <= 5 ? -1 : place[1], bound[what]);
                }
                int tile = Math.max(0, place[0]);
                int component = Math.max(0, place[1]);
                x.tilePart(tile);
                x.pass(0, x.write());
                Check.due("read", x.read(), 1);
                Check.due("HEIGHT", x.at(1, tile, component), bound[1]);
                for (int what = 3; what <= 10; what++) {
                    Check.due(what + " at " + tile + ", " + component, x.at(what, tile, component), bound[what]);
                }
                Check.due("COMPONENTS", x.at(2, tile, component), place[1] < 0 ? bound[2] : 2);
                Check.due("WIDTH", x.at(0, tile, component), place[0] < 0 ? bound[0] : 2000);
            }
        }
    }
}
