import java.util.ArrayList;
import java.util.Arrays;
import java.util.List;
import java.util.Map;
import java.util.Random;
import java.util.TreeMap;

/** Promises 1 to 9 over many files that are set up by chance, always the same ones, compared with a second writer. */
public final class WrittenFilesTest {
    private static final int ROUNDS = 1500;
    private static final int[] LEAST = {1, 1, 1, 1, 0, 1, 0, 2, 0, 0, 0};
    private static final int[] GREATEST = {2000, 2000, 4, 16, 4, 1000, 5, 6, 1, 31, 7};
    private static final String[] KINDS = {"colr", "res ", "uuid", "    ", "~~~~"};

    private static final class Part {
        final int tile;
        final List<Build> packets = new ArrayList<>();

        Part(int tile) {
            this.tile = tile;
        }
    }

    private static final class Box {
        final boolean inside;
        final String kind;
        final Build bytes = new Build();

        Box(boolean inside, String kind) {
            this.inside = inside;
            this.kind = kind;
        }
    }

    private final Random random;
    private final int tileWidth;
    private final int tileHeight;
    private final WaveFiles x;
    private final int[] sizes;
    private final int[] depths = {8, 8, 8, 8};
    /** By "tile/component", -1 for all: what 4 to 8 are, and what 9 and 10 are. */
    private final Map<String, int[]> styles = new TreeMap<>();
    private final Map<String, int[]> steps = new TreeMap<>();
    private final List<Part> parts = new ArrayList<>();
    private final List<Box> boxes = new ArrayList<>();

    private WrittenFilesTest(int seed) {
        random = new Random(seed);
        tileWidth = any(1, any(0, 3) == 0 ? 2000 : 9);
        tileHeight = any(1, any(0, 3) == 0 ? 2000 : 9);
        x = new WaveFiles(tileWidth, tileHeight);
        sizes = new int[] {tileWidth, tileHeight, 1};
        styles.put("-1/-1", new int[] {0, 1, 5, 4, 1});
        steps.put("-1/-1", new int[] {8, 2});
    }

    public static void main(String[] args) {
        for (int round = 0; round < ROUNDS; round++) {
            WrittenFilesTest test = new WrittenFilesTest(round);
            for (int i = 0; i < 4; i++) {
                test.change();
                test.compare("round " + round + "." + i);
            }
        }
        Check.finish();
    }

    private int any(int least, int most) {
        return least + random.nextInt(most - least + 1);
    }

    private void change() {
        for (int i = any(0, 12); i > 0; i--) {
            int what = any(-1, any(0, 1) == 0 ? 2 : 11);
            boolean isSize = what >= 0 && what < 2;
            int bound = what < 0 || what > 10 ? 9 : GREATEST[what];
            setAndCompare(what, any(-2, any(-1, tiles())), any(-2, any(-1, sizes[2])),
                    any(isSize ? 0 : -1, isSize ? 40 : bound + 1));
        }
        for (int i = any(0, 9); i > 0 && any(0, 2) > 0; i--) {
            int tile = any(0, tiles() - 1);
            Check.due("tilePart", x.tilePart(tile), parts.size());
            parts.add(new Part(tile));
            fillAPart();
        }
        if (any(0, 2) == 0 && boxes.size() < 8) {
            Box made = new Box(random.nextBoolean(), KINDS[any(0, KINDS.length - 1)]);
            Check.due("box", x.box(made.inside, Build.kind(made.kind)), boxes.size());
            boxes.add(made);
        }
        for (int i = any(0, 9); i > 0 && !boxes.isEmpty(); i--) {
            int k = any(0, boxes.size() - 1);
            Build bytes = boxes.get(k).bytes;
            int b = any(0, 255);
            if (bytes.size() < 40) {
                Check.due("boxByte", x.boxByte(k, b), bytes.bytes(b).size());
            }
        }
    }

    /** Any part grows, not only the latest one. */
    private void fillAPart() {
        int k = any(0, parts.size() - 1);
        List<Build> packets = parts.get(k).packets;
        for (int p = any(0, 3); p > 0 && packets.size() < 20; p--) {
            packets.add(new Build());
            Check.due("packet", x.packet(k), packets.size());
            for (int i = any(0, 5) == 0 ? any(120, 140) : any(0, 4); i > 0 && dataOf(k).size() < 300; i--) {
                int b = any(0, 255);
                packets.get(packets.size() - 1).bytes(b);
                Check.due("byteOf", x.byteOf(k, b), dataOf(k).size());
            }
        }
    }

    private Build dataOf(int k) {
        Build all = new Build();
        for (Build packet : parts.get(k).packets) {
            all.add(packet);
        }
        return all;
    }

    private int tiles() {
        return tilesOf(sizes[0], sizes[1]);
    }

    private int tilesOf(int width, int height) {
        int across = width % tileWidth == 0 ? width / tileWidth : width / tileWidth + 1;
        int down = height % tileHeight == 0 ? height / tileHeight : height / tileHeight + 1;
        return across * down;
    }

    private void setAndCompare(int what, int tile, int component, int v) {
        String call = "set(" + what + ", " + tile + ", " + component + ", " + v + ")";
        boolean tileIsThere = tile == -1 || what > 3 && tile >= 0 && tile < tiles();
        boolean mayBeOfOne = what == 3 || what > 5;
        boolean isThere = component == -1 || mayBeOfOne && component >= 0 && component < sizes[2];
        if (what < 0 || what > 10 || !tileIsThere || !isThere) {
            Check.dueIndex(call, () -> x.set(what, tile, component, v));
        } else if (what < 3 && (styles.size() > 1 || steps.size() > 1 || !parts.isEmpty())) {
            Check.dueState(call, () -> x.set(what, tile, component, v));
        } else if (v < LEAST[what] || v > GREATEST[what] || what == 0 && tilesOf(v, sizes[1]) > 24
                || what == 1 && tilesOf(sizes[0], v) > 24) {
            Check.dueArgument(call, () -> x.set(what, tile, component, v));
        } else {
            Check.due(call, x.set(what, tile, component, v), keep(what, tile, component, v));
        }
    }

    /** What it was there, or in force there. */
    private int keep(int what, int tile, int component, int v) {
        if (what < 3) {
            int was = sizes[what];
            sizes[what] = v;
            return was;
        }
        if (what == 3) {
            int was = depths[Math.max(0, component)];
            for (int c = 0; c < 4; c++) {
                depths[c] = component == -1 || component == c ? v : depths[c];
            }
            return was;
        }
        Map<String, int[]> segments = what < 9 ? styles : steps;
        int[] segment = inForce(segments, tile, component).clone();
        int at = what < 9 ? what - 4 : what - 9;
        int was = segment[at];
        segment[at] = v;
        segments.put(tile + "/" + component, segment);
        return was;
    }

    private static int[] inForce(Map<String, int[]> segments, int tile, int component) {
        for (String key : new String[] {tile + "/" + component, tile + "/-1", "-1/" + component}) {
            if (segments.containsKey(key)) {
                return segments.get(key);
            }
        }
        return segments.get("-1/-1");
    }

    private void compare(String name) {
        Build want = file();
        Check.due(name + ": write", x.write(), want.size());
        Check.due(name + ": told(3)", x.told(3), want.size());
        for (int i = 0; i < want.size(); i++) {
            Check.due(name + ": byteAt(" + i + ")", x.byteAt(i), want.get(i));
        }
        Check.dueIndex(name + ": no more", () -> x.byteAt(want.size()));
        Check.due(name + ": tiles", x.told(0), tiles());
        Check.due(name + ": parts", x.told(1), parts.size());
        Check.due(name + ": boxes", x.told(2), boxes.size());
        x.cut(0);
        x.pass(0, want.size());
        Check.due(name + ": read", x.read(), parts.size());
        Check.due(name + ": none is spoilt", x.told(7), 0);
    }

    private Build file() {
        int deepest = 0;
        for (int c = 0; c < sizes[2]; c++) {
            deepest = Math.max(deepest, depths[c]);
        }
        Build header = Build.pictureHeader(sizes[1], sizes[0], sizes[2], deepest);
        Build others = new Build();
        for (Box made : boxes) {
            (made.inside ? header : others).box(made.kind, made.bytes);
        }
        return Build.signature().add(Build.fileType()).box("jp2h", header).add(others).box("jp2c", stream());
    }

    private Build stream() {
        Build out = new Build().begin().sizes(sizes[0], sizes[1], tileWidth, tileHeight,
                Arrays.copyOf(depths, sizes[2])).add(segments(-1));
        int[] before = new int[24];
        for (int k = 0; k < parts.size(); k++) {
            Part made = parts.get(k);
            Build head = before[made.tile] == 0 ? segments(made.tile) : new Build();
            if (!made.packets.isEmpty()) {
                head.lengths(made.packets.stream().mapToInt(Build::size).toArray());
            }
            out.part(made.tile, before[made.tile]++, head, dataOf(k).all());
        }
        return out.end();
    }

    private Build segments(int tile) {
        Build out = new Build();
        for (int c = -1; c < 4; c++) {
            int[] s = styles.get(tile + "/" + c);
            if (s != null && c < 0) {
                out.style(s[0], s[1], s[2], s[3], s[4]);
            } else if (s != null) {
                out.styleOf(c, s[2], s[3], s[4]);
            }
        }
        for (int c = -1; c < 4; c++) {
            int[] s = steps.get(tile + "/" + c);
            if (s != null && c < 0) {
                out.step(s[0], s[1]);
            } else if (s != null) {
                out.stepOf(c, s[0], s[1]);
            }
        }
        return out;
    }
}
