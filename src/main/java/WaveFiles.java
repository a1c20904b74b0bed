import java.util.ArrayList;
import java.util.Arrays;

/**
 * Streams of wavelet pictures in boxed files: they are set up and written, and read back though parts of them are
 * broken or cut off.
 */
public final class WaveFiles {
    public static final int NONE = -1;

    /** Stands for a tile or a component where a setting is for all of them. */
    private static final int ALL = -1;
    /** No place is broken. */
    private static final int FINE = -1;

    private static final int WIDTH = 0;
    private static final int HEIGHT = 1;
    private static final int COMPONENTS = 2;
    private static final int DEPTH = 3;
    private static final int ORDER = 4;
    private static final int LAYERS = 5;
    private static final int LEVELS = 6;
    private static final int BLOCK = 7;
    private static final int WAVES = 8;
    private static final int EXPONENT = 9;
    private static final int GUARD = 10;
    private static final int COLOUR = 11;

    /** By the what of a setting: its bounds, and what it is at first (width and height are one tile's at first). */
    private static final int[] LEAST = {1, 1, 1, 1, 0, 1, 0, 2, 0, 0, 0};
    private static final int[] GREATEST = {2000, 2000, 4, 16, 4, 1000, 5, 6, 1, 31, 7};
    private static final int[] AT_FIRST = {0, 0, 1, 8, 0, 1, 5, 4, 1, 8, 2};

    private static final int MOST_SIDE = 2000;
    private static final int MOST_TILE_SIDE_READ = 65536;
    private static final int MOST_TILES = 24;
    private static final int MOST_COMPONENTS = 4;
    private static final int MOST_PARTS = 40;
    private static final int MOST_PACKETS = 20;
    private static final int MOST_PART_BYTES = 300;
    private static final int MOST_BOXES = 8;
    private static final int MOST_BOX_BYTES = 40;
    private static final int MOST_FED = 20000;
    /** All parts, boxes and segments at their fullest come to some 17300 bytes. */
    private static final int MOST_WRITTEN = 20000;
    private static final int MOST_PARTS_READ = 300;
    private static final int MOST_LENGTHS_READ = 200;
    private static final int MOST_LENGTH_READ = 100000;

    private static final int MARK = 255;
    private static final int STREAM_BEGIN = 79;
    private static final int SIZES = 81;
    private static final int STYLE = 82;
    private static final int STYLE_OF_COMPONENT = 83;
    private static final int PACKET_LENGTHS = 88;
    private static final int STEP = 92;
    private static final int STEP_OF_COMPONENT = 93;
    private static final int PART_BEGIN = 144;
    private static final int PART_BYTES = 147;
    private static final int STREAM_END = 217;

    private static final int KIND_JP = 0x6A502020;
    private static final int KIND_FTYP = 0x66747970;
    private static final int KIND_JP2H = 0x6A703268;
    private static final int KIND_IHDR = 0x69686472;
    private static final int KIND_COLR = 0x636F6C72;
    private static final int KIND_JP2C = 0x6A703263;
    private static final int BRAND_JP2 = 0x6A703220;
    private static final int SIGNATURE = 0x0D0A870A;
    private static final int SIGNATURE_BOX_BYTES = 12;
    private static final int BOX_HEAD = 8;
    private static final int PART_HEAD = 12;

    private final Settings settings = new Settings();
    private final ArrayList<TilePart> parts = new ArrayList<TilePart>();
    private final ArrayList<MadeBox> boxes = new ArrayList<MadeBox>();
    private final Writer writer = new Writer();
    private final Bytes fed = new Bytes(MOST_FED);

    /** What was fed as it stood at the latest read(): later feeding and altering leaves what was read alone. */
    private final Bytes taken = new Bytes(MOST_FED);
    private final Settings readSettings = new Settings();
    private final BoxReader boxReader = new BoxReader(taken);
    private final HeadReader headReader = new HeadReader(taken, readSettings);
    private final PartReader partReader = new PartReader(taken, readSettings, headReader);
    private boolean isRead = false;

    public WaveFiles(int tileWidth, int tileHeight) {
        settings.restart(nearestSide(tileWidth), nearestSide(tileHeight));
    }

    public int set(int what, int tile, int component, int v)
            throws IndexOutOfBoundsException, IllegalStateException, IllegalArgumentException {
        if (!canBeSet(what, tile, component)) {
            throw new IndexOutOfBoundsException("no such setting there");
        }
        if (what <= COMPONENTS && (!parts.isEmpty() || settings.hasSegmentNotForAll())) {
            throw new IllegalStateException("the sizes are fixed");
        }
        if (!settings.allows(what, v)) {
            throw new IllegalArgumentException("beyond the bounds of the setting");
        }
        int was = settings.valueOf(what, tile, component);
        settings.change(what, tile, component, v);
        return was;
    }

    public int tilePart(int tile) throws IndexOutOfBoundsException, UnsupportedOperationException {
        if (tile < 0 || tile >= settings.tiles()) {
            throw new IndexOutOfBoundsException("no such tile");
        }
        if (parts.size() >= MOST_PARTS) {
            throw new UnsupportedOperationException("no room for a tile part");
        }
        parts.add(new TilePart(tile, partsOf(tile)));
        return parts.size() - 1;
    }

    public int packet(int part) throws IndexOutOfBoundsException, UnsupportedOperationException {
        if (part < 0 || part >= parts.size()) {
            throw new IndexOutOfBoundsException("no such part");
        }
        TilePart made = parts.get(part);
        if (made.packets >= MOST_PACKETS) {
            throw new UnsupportedOperationException("no room for a packet");
        }
        made.packets++;
        return made.packets;
    }

    public int byteOf(int part, int b) throws IndexOutOfBoundsException, IllegalStateException,
            IllegalArgumentException, UnsupportedOperationException {
        if (part < 0 || part >= parts.size()) {
            throw new IndexOutOfBoundsException("no such part");
        }
        TilePart made = parts.get(part);
        if (made.packets == 0) {
            throw new IllegalStateException("the part has no packet");
        }
        if (!isByte(b)) {
            throw new IllegalArgumentException("no byte");
        }
        if (!made.grow(b)) {
            throw new UnsupportedOperationException("no room for a byte");
        }
        return made.bytes.count;
    }

    public int box(boolean inside, int kind) throws IllegalArgumentException, UnsupportedOperationException {
        if (!isKind(kind) || isOwnKind(kind)) {
            throw new IllegalArgumentException("no kind for a box");
        }
        if (boxes.size() >= MOST_BOXES) {
            throw new UnsupportedOperationException("no room for a box");
        }
        boxes.add(new MadeBox(inside, kind));
        return boxes.size() - 1;
    }

    public int boxByte(int box, int b)
            throws IndexOutOfBoundsException, IllegalArgumentException, UnsupportedOperationException {
        if (box < 0 || box >= boxes.size()) {
            throw new IndexOutOfBoundsException("no such box");
        }
        if (!isByte(b)) {
            throw new IllegalArgumentException("no byte");
        }
        Bytes bytes = boxes.get(box).bytes;
        if (!bytes.append(b)) {
            throw new UnsupportedOperationException("no room for a byte");
        }
        return bytes.count;
    }

    public int write() {
        writer.begin();
        writer.headBoxes(settings, boxes);
        writer.madeBoxes(boxes, false);
        writer.streamBox(settings, parts);
        return writer.out.count;
    }

    public int byteAt(int i) throws IndexOutOfBoundsException {
        if (i < 0 || i >= writer.out.count) {
            throw new IndexOutOfBoundsException("no such byte");
        }
        return writer.out.get(i);
    }

    public int feed(int b) throws IllegalArgumentException, UnsupportedOperationException {
        if (!isByte(b)) {
            throw new IllegalArgumentException("no byte");
        }
        if (!fed.append(b)) {
            throw new UnsupportedOperationException("no room for a byte");
        }
        return fed.count;
    }

    public int pass(int from, int n)
            throws IndexOutOfBoundsException, IllegalArgumentException, UnsupportedOperationException {
        if (from < 0 || from >= writer.out.count) {
            throw new IndexOutOfBoundsException("no such byte");
        }
        if (n < 0) {
            throw new IllegalArgumentException("fewer than no bytes");
        }
        int many = Math.min(n, writer.out.count - from);
        if (many > MOST_FED - fed.count) {
            throw new UnsupportedOperationException("no room for so many bytes");
        }
        for (int i = 0; i < many; i++) {
            fed.append(writer.out.get(from + i));
        }
        return many;
    }

    public int alter(int i, int b) throws IndexOutOfBoundsException, IllegalArgumentException {
        if (i < 0 || i >= fed.count) {
            throw new IndexOutOfBoundsException("no such byte");
        }
        if (!isByte(b)) {
            throw new IllegalArgumentException("no byte");
        }
        int was = fed.get(i);
        fed.put(i, b);
        return was;
    }

    public int cut(int n) throws IllegalArgumentException {
        if (n < 0) {
            throw new IllegalArgumentException("fewer than no bytes");
        }
        fed.count = Math.min(n, fed.count);
        return fed.count;
    }

    public int read() {
        forgetReading();
        taken.copy(fed);
        int broken = boxReader.findStream();
        if (broken == FINE) {
            broken = headReader.readHead(boxReader.streamFrom, boxReader.streamEnd);
        }
        if (broken != FINE) {
            return -1 - broken;
        }
        partReader.readParts(headReader.headEnd, boxReader.streamEnd);
        isRead = true;
        return partReader.count;
    }

    public int at(int what, int tile, int component) throws IllegalStateException, IndexOutOfBoundsException {
        if (!isRead) {
            throw new IllegalStateException("nothing was read");
        }
        if (!canBeAsked(what, tile, component)) {
            throw new IndexOutOfBoundsException("no such setting there");
        }
        return what == COLOUR ? boxReader.colour : readSettings.valueOf(what, tile, component);
    }

    public int part(int k, int what) throws IllegalStateException, IndexOutOfBoundsException {
        if (!isRead) {
            throw new IllegalStateException("nothing was read");
        }
        if (k < 0 || k >= partReader.count) {
            throw new IndexOutOfBoundsException("no such part");
        }
        return partReader.numberOf(k, what);
    }

    public int partByte(int part, int i) throws IllegalStateException, IndexOutOfBoundsException {
        if (!isRead) {
            throw new IllegalStateException("nothing was read");
        }
        if (part < 0 || part >= partReader.count) {
            throw new IndexOutOfBoundsException("no such part");
        }
        if (i < 0 || i >= partReader.sizes[part]) {
            throw new IndexOutOfBoundsException("no such byte");
        }
        return taken.get(partReader.starts[part] + i);
    }

    public int unknown(int k, int what) throws IndexOutOfBoundsException {
        if (k < 0 || k >= boxReader.unknownPlaces.count) {
            throw new IndexOutOfBoundsException("no such box");
        }
        int place = boxReader.unknownPlaces.get(k);
        int size = boxReader.unknownEnds.get(k) - place - BOX_HEAD;
        if (what < -2 || what >= size) {
            throw new IndexOutOfBoundsException("no such byte");
        }
        if (what == -1) {
            return boxReader.kindAt(place);
        }
        return what == -2 ? size : taken.get(place + BOX_HEAD + what);
    }

    public int told(int what) {
        switch (what) {
            case 0:
                return settings.tiles();
            case 1:
                return parts.size();
            case 2:
                return boxes.size();
            case 3:
                return writer.out.count;
            case 4:
                return fed.count;
            case 5:
                return partReader.count;
            case 6:
                return boxReader.unknownPlaces.count;
            case 7:
                return partReader.spoiltOnes();
            case 8:
                return partReader.wholePackets();
            default:
                return NONE;
        }
    }

    public void clear() {
        settings.restart(settings.tileWidth, settings.tileHeight);
        parts.clear();
        boxes.clear();
        writer.begin();
        fed.count = 0;
        taken.count = 0;
        forgetReading();
    }

    private void forgetReading() {
        isRead = false;
        boxReader.forget();
        readSettings.forgetSegments();
        partReader.forget();
    }

    private boolean canBeSet(int what, int tile, int component) {
        if (what < WIDTH || what > GUARD) {
            return false;
        }
        boolean tileFits = tile == ALL || (what >= ORDER && settings.isTile(tile));
        boolean byComponent = what == DEPTH || what >= LEVELS;
        boolean componentFits = component == ALL || (byComponent && settings.isComponent(component));
        return tileFits && componentFits;
    }

    private boolean canBeAsked(int what, int tile, int component) {
        if (what < WIDTH || what > COLOUR) {
            return false;
        }
        if (what <= COMPONENTS || what == COLOUR) {
            return true;
        }
        boolean tileFits = what == DEPTH || readSettings.isTile(tile);
        boolean componentFits = what == ORDER || what == LAYERS || readSettings.isComponent(component);
        return tileFits && componentFits;
    }

    private int partsOf(int tile) {
        int many = 0;
        for (int i = 0; i < parts.size(); i++) {
            if (parts.get(i).tile == tile) {
                many++;
            }
        }
        return many;
    }

    private static int nearestSide(int side) {
        return Math.max(1, Math.min(MOST_SIDE, side));
    }

    private static boolean isByte(int b) {
        return b >= 0 && b <= 255;
    }

    private static boolean isKind(int kind) {
        for (int shift = 0; shift < 32; shift += 8) {
            int sign = (kind >>> shift) & 255;
            if (sign < 32 || sign > 126) {
                return false;
            }
        }
        return true;
    }

    /** The kinds that the file has by itself, which therefore no made box may have. */
    private static boolean isOwnKind(int kind) {
        return kind == KIND_JP || kind == KIND_FTYP || kind == KIND_JP2H || kind == KIND_IHDR || kind == KIND_JP2C;
    }

    private static boolean isWithin(int what, long v) {
        return what >= 0 && what < LEAST.length && v >= LEAST[what] && v <= GREATEST[what];
    }

    /** A row of bytes that grows up to its bound, and is used again when its count is put back. */
    private static final class Bytes {
        private static final int FIRST_ROOM = 32;

        final int most;
        byte[] row = new byte[FIRST_ROOM];
        int count = 0;

        Bytes(int most) {
            this.most = most;
        }

        boolean append(int b) {
            if (count >= most) {
                return false;
            }
            if (count >= row.length) {
                row = Arrays.copyOf(row, Math.min(most, 2 * row.length));
            }
            row[count] = (byte) b;
            count++;
            return true;
        }

        void appendNumber(int v, int bytes) {
            for (int shift = 8 * (bytes - 1); shift >= 0; shift -= 8) {
                append((v >>> shift) & 255);
            }
        }

        int get(int i) {
            return i >= 0 && i < count ? row[i] & 255 : NONE;
        }

        void put(int i, int b) {
            if (i >= 0 && i < count) {
                row[i] = (byte) b;
            }
        }

        void putNumber4(int i, int v) {
            for (int k = 0; k < 4; k++) {
                put(i + k, (v >>> (24 - 8 * k)) & 255);
            }
        }

        /** The number in so many bytes, as it is without a sign; bytes that are not there count as 0. */
        long number(int i, int bytes) {
            long v = 0;
            for (int k = 0; k < bytes; k++) {
                v = v * 256 + Math.max(0, get(i + k));
            }
            return v;
        }

        void copy(Bytes other) {
            if (row.length < other.row.length) {
                row = new byte[other.row.length];
            }
            System.arraycopy(other.row, 0, row, 0, other.count);
            count = other.count;
        }
    }

    /** A row of numbers that grows, and is used again when its count is put back. */
    private static final class Numbers {
        private static final int FIRST_ROOM = 8;

        int[] row = new int[FIRST_ROOM];
        int count = 0;

        void append(int v) {
            if (count >= row.length) {
                row = Arrays.copyOf(row, 2 * row.length);
            }
            row[count] = v;
            count++;
        }

        int get(int i) {
            return i >= 0 && i < count ? row[i] : NONE;
        }
    }

    private static final class TilePart {
        final int tile;
        final int partsBefore;
        final int[] lengths = new int[MOST_PACKETS];
        final Bytes bytes = new Bytes(MOST_PART_BYTES);
        int packets = 0;

        TilePart(int tile, int partsBefore) {
            this.tile = tile;
            this.partsBefore = partsBefore;
        }

        boolean grow(int b) {
            if (packets < 1 || packets > MOST_PACKETS || !bytes.append(b)) {
                return false;
            }
            lengths[packets - 1]++;
            return true;
        }
    }

    private static final class MadeBox {
        final boolean inside;
        final int kind;
        final Bytes bytes = new Bytes(MOST_BOX_BYTES);

        MadeBox(boolean inside, int kind) {
            this.inside = inside;
            this.kind = kind;
        }
    }

    /** Sizes, depths and segments; a segment's slot is told by its tile and its component, each of which may be ALL. */
    private static final class Settings {
        private static final int SLOTS_OF_TILE = 1 + MOST_COMPONENTS;
        private static final int SLOTS = (1 + MOST_TILES) * SLOTS_OF_TILE;
        private static final int SLOT_FOR_ALL = 0;
        private static final int SEGMENT_NUMBERS = 1 + GUARD - ORDER;

        final int[] sizes = new int[1 + COMPONENTS];
        final int[] depths = new int[MOST_COMPONENTS];
        final int[] numbers = new int[SLOTS * SEGMENT_NUMBERS];
        final boolean[] styles = new boolean[SLOTS];
        final boolean[] steps = new boolean[SLOTS];
        int tileWidth = 1;
        int tileHeight = 1;

        void restart(int width, int height) {
            tileWidth = width;
            tileHeight = height;
            sizes[WIDTH] = width;
            sizes[HEIGHT] = height;
            sizes[COMPONENTS] = AT_FIRST[COMPONENTS];
            for (int c = 0; c < MOST_COMPONENTS; c++) {
                depths[c] = AT_FIRST[DEPTH];
            }
            forgetSegments();
            for (int what = ORDER; what <= GUARD; what++) {
                hold(SLOT_FOR_ALL, what, AT_FIRST[what]);
            }
        }

        void forgetSegments() {
            for (int slot = 0; slot < SLOTS; slot++) {
                styles[slot] = false;
                steps[slot] = false;
            }
        }

        void forgetTile(int tile) {
            for (int component = ALL; component < MOST_COMPONENTS; component++) {
                styles[slotOf(tile, component)] = false;
                steps[slotOf(tile, component)] = false;
            }
        }

        boolean isTile(int tile) {
            return tile >= 0 && tile < tiles();
        }

        boolean isComponent(int component) {
            return component >= 0 && component < sizes[COMPONENTS];
        }

        int tiles() {
            return tilesFor(sizes[WIDTH], sizes[HEIGHT]);
        }

        int tilesFor(int width, int height) {
            return asManyAsItTakes(width, tileWidth) * asManyAsItTakes(height, tileHeight);
        }

        boolean allows(int what, int v) {
            if (!isWithin(what, v)) {
                return false;
            }
            int width = what == WIDTH ? v : sizes[WIDTH];
            int height = what == HEIGHT ? v : sizes[HEIGHT];
            return tilesFor(width, height) <= MOST_TILES;
        }

        boolean hasSegmentNotForAll() {
            for (int slot = 1; slot < SLOTS; slot++) {
                if (styles[slot] || steps[slot]) {
                    return true;
                }
            }
            return false;
        }

        boolean hasStyleAndStepForAll() {
            return styles[SLOT_FOR_ALL] && steps[SLOT_FOR_ALL];
        }

        boolean hasStyle(int tile, int component) {
            return styles[slotOf(tile, component)];
        }

        boolean hasStep(int tile, int component) {
            return steps[slotOf(tile, component)];
        }

        int valueOf(int what, int tile, int component) {
            if (what <= COMPONENTS) {
                return sizes[what];
            }
            if (what == DEPTH) {
                return depths[Math.max(0, component)];
            }
            boolean byTileAlone = what == ORDER || what == LAYERS;
            return numbers[place(slotInForce(what, tile, byTileAlone ? ALL : component), what)];
        }

        void change(int what, int tile, int component, int v) {
            if (what <= COMPONENTS) {
                sizes[what] = v;
            } else if (what == DEPTH) {
                changeDepth(component, v);
            } else {
                makeSegment(what, tile, component);
                hold(slotOf(tile, component), what, v);
            }
        }

        void changeDepth(int component, int v) {
            for (int c = 0; c < MOST_COMPONENTS; c++) {
                if (component == ALL || component == c) {
                    depths[c] = v;
                }
            }
        }

        /** A new segment has all that was in force, so that only the number that is set then differs. */
        void makeSegment(int what, int tile, int component) {
            int slot = slotOf(tile, component);
            int from = slotInForce(what, tile, component);
            if (slot == from) {
                return;
            }
            int first = what < EXPONENT ? ORDER : EXPONENT;
            int last = what < EXPONENT ? WAVES : GUARD;
            for (int w = first; w <= last; w++) {
                hold(slot, w, numbers[place(from, w)]);
            }
        }

        void hold(int slot, int what, int v) {
            numbers[place(slot, what)] = v;
            if (what < EXPONENT) {
                styles[slot] = true;
            } else {
                steps[slot] = true;
            }
        }

        int slotInForce(int what, int tile, int component) {
            boolean[] made = what < EXPONENT ? styles : steps;
            if (made[slotOf(tile, component)]) {
                return slotOf(tile, component);
            }
            if (made[slotOf(tile, ALL)]) {
                return slotOf(tile, ALL);
            }
            return made[slotOf(ALL, component)] ? slotOf(ALL, component) : SLOT_FOR_ALL;
        }

        /** What is beyond the bounds counts as ALL, so that the slot is always one that is there. */
        static int slotOf(int tile, int component) {
            int row = tile >= 0 && tile < MOST_TILES ? tile + 1 : 0;
            int column = component >= 0 && component < MOST_COMPONENTS ? component + 1 : 0;
            return row * SLOTS_OF_TILE + column;
        }

        static int place(int slot, int what) {
            return slot * SEGMENT_NUMBERS + what - ORDER;
        }

        static int asManyAsItTakes(int whole, int side) {
            return side < 1 ? 0 : (whole + side - 1) / side;
        }
    }

    /** Writes the file; a length is left open where it stands, and filled in when all that it counts is there. */
    private static final class Writer {
        final Bytes out = new Bytes(MOST_WRITTEN);

        void begin() {
            out.count = 0;
        }

        int openBox(int kind) {
            int place = out.count;
            out.appendNumber(0, 4);
            out.appendNumber(kind, 4);
            return place;
        }

        void closeBox(int place) {
            out.putNumber4(place, out.count - place);
        }

        void headBoxes(Settings settings, ArrayList<MadeBox> boxes) {
            int signature = openBox(KIND_JP);
            out.appendNumber(SIGNATURE, 4);
            closeBox(signature);
            int fileType = openBox(KIND_FTYP);
            out.appendNumber(BRAND_JP2, 4);
            out.appendNumber(0, 4);
            out.appendNumber(BRAND_JP2, 4);
            closeBox(fileType);
            int header = openBox(KIND_JP2H);
            pictureHeader(settings);
            madeBoxes(boxes, true);
            closeBox(header);
        }

        void pictureHeader(Settings settings) {
            int greatestDepth = 1;
            for (int c = 0; c < settings.sizes[COMPONENTS]; c++) {
                greatestDepth = Math.max(greatestDepth, settings.valueOf(DEPTH, ALL, c));
            }
            int place = openBox(KIND_IHDR);
            out.appendNumber(settings.sizes[HEIGHT], 4);
            out.appendNumber(settings.sizes[WIDTH], 4);
            out.appendNumber(settings.sizes[COMPONENTS], 2);
            out.append(greatestDepth - 1);
            out.append(7);
            out.appendNumber(0, 2);
            closeBox(place);
        }

        void madeBoxes(ArrayList<MadeBox> boxes, boolean inside) {
            for (int i = 0; i < boxes.size(); i++) {
                MadeBox made = boxes.get(i);
                if (made.inside == inside) {
                    int place = openBox(made.kind);
                    appendAll(made.bytes);
                    closeBox(place);
                }
            }
        }

        void appendAll(Bytes bytes) {
            for (int i = 0; i < bytes.count; i++) {
                out.append(bytes.get(i));
            }
        }

        void streamBox(Settings settings, ArrayList<TilePart> parts) {
            int place = openBox(KIND_JP2C);
            code(STREAM_BEGIN);
            sizes(settings);
            segments(settings, ALL);
            for (int i = 0; i < parts.size(); i++) {
                onePart(settings, parts.get(i));
            }
            code(STREAM_END);
            closeBox(place);
        }

        void code(int code) {
            out.append(MARK);
            out.append(code);
        }

        void sizes(Settings settings) {
            int components = settings.sizes[COMPONENTS];
            code(SIZES);
            out.appendNumber(38 + 3 * components, 2);
            out.appendNumber(0, 2);
            out.appendNumber(settings.sizes[WIDTH], 4);
            out.appendNumber(settings.sizes[HEIGHT], 4);
            out.appendNumber(0, 4);
            out.appendNumber(0, 4);
            out.appendNumber(settings.tileWidth, 4);
            out.appendNumber(settings.tileHeight, 4);
            out.appendNumber(0, 4);
            out.appendNumber(0, 4);
            out.appendNumber(components, 2);
            for (int c = 0; c < components; c++) {
                out.append(settings.valueOf(DEPTH, ALL, c) - 1);
                out.append(1);
                out.append(1);
            }
        }

        void segments(Settings settings, int tile) {
            for (int c = ALL; c < settings.sizes[COMPONENTS]; c++) {
                if (settings.hasStyle(tile, c)) {
                    style(settings, tile, c);
                }
            }
            for (int c = ALL; c < settings.sizes[COMPONENTS]; c++) {
                if (settings.hasStep(tile, c)) {
                    step(settings, tile, c);
                }
            }
        }

        void style(Settings settings, int tile, int component) {
            if (component == ALL) {
                code(STYLE);
                out.appendNumber(12, 2);
                out.append(0);
                out.append(settings.valueOf(ORDER, tile, ALL));
                out.appendNumber(settings.valueOf(LAYERS, tile, ALL), 2);
            } else {
                code(STYLE_OF_COMPONENT);
                out.appendNumber(9, 2);
                out.append(component);
            }
            int block = settings.valueOf(BLOCK, tile, component) - 2;
            out.append(0);
            out.append(settings.valueOf(LEVELS, tile, component));
            out.append(block);
            out.append(block);
            out.append(0);
            out.append(settings.valueOf(WAVES, tile, component));
        }

        void step(Settings settings, int tile, int component) {
            if (component == ALL) {
                code(STEP);
                out.appendNumber(5, 2);
            } else {
                code(STEP_OF_COMPONENT);
                out.appendNumber(6, 2);
                out.append(component);
            }
            out.append(32 * settings.valueOf(GUARD, tile, component) + 1);
            out.appendNumber(2048 * settings.valueOf(EXPONENT, tile, component), 2);
        }

        void onePart(Settings settings, TilePart made) {
            int place = out.count;
            code(PART_BEGIN);
            out.appendNumber(10, 2);
            out.appendNumber(made.tile, 2);
            out.appendNumber(0, 4);
            out.append(made.partsBefore);
            out.append(0);
            if (made.partsBefore == 0) {
                segments(settings, made.tile);
            }
            if (made.packets > 0) {
                packetLengths(made);
            }
            code(PART_BYTES);
            appendAll(made.bytes);
            out.putNumber4(place + 6, out.count - place);
        }

        void packetLengths(TilePart made) {
            int packets = Math.min(made.packets, MOST_PACKETS);
            int bytes = 0;
            for (int i = 0; i < packets; i++) {
                bytes += made.lengths[i] < 128 ? 1 : 2;
            }
            code(PACKET_LENGTHS);
            out.appendNumber(3 + bytes, 2);
            out.append(0);
            for (int i = 0; i < packets; i++) {
                int length = made.lengths[i];
                if (length >= 128) {
                    out.append(128 + length / 128);
                }
                out.append(length % 128);
            }
        }
    }

    /** Finds the stream in what was taken, and keeps what the boxes before it tell. */
    private static final class BoxReader {
        final Bytes bytes;
        final Numbers unknownPlaces = new Numbers();
        final Numbers unknownEnds = new Numbers();
        int colour = NONE;
        int streamFrom = 0;
        int streamEnd = 0;

        BoxReader(Bytes bytes) {
            this.bytes = bytes;
        }

        void forget() {
            unknownPlaces.count = 0;
            unknownEnds.count = 0;
            colour = NONE;
        }

        /** The place of what is broken or missing, or FINE. */
        int findStream() {
            streamFrom = 0;
            streamEnd = bytes.count;
            if (bytes.get(0) == MARK && bytes.get(1) == STREAM_BEGIN) {
                return FINE;
            }
            return beginsWithSignature() ? readBoxes() : 0;
        }

        boolean beginsWithSignature() {
            return bytes.count >= SIGNATURE_BOX_BYTES && bytes.number(0, 4) == SIGNATURE_BOX_BYTES
                    && kindAt(0) == KIND_JP && (int) bytes.number(BOX_HEAD, 4) == SIGNATURE;
        }

        int readBoxes() {
            int end = bytes.count;
            int place = SIGNATURE_BOX_BYTES;
            for (int n = 0; n < MOST_FED && place < end; n++) {
                int next = boxEnd(place, end, true);
                if (next == NONE) {
                    return place;
                }
                int kind = kindAt(place);
                if (kind == KIND_JP2C) {
                    streamFrom = place + BOX_HEAD;
                    streamEnd = next;
                    return FINE;
                }
                int broken = kind == KIND_JP2H ? readHeaderBoxes(place + BOX_HEAD, next) : FINE;
                if (broken != FINE) {
                    return broken;
                }
                if (kind != KIND_JP2H && kind != KIND_FTYP) {
                    keepUnknown(place, next);
                }
                place = next;
            }
            return end;
        }

        /** An empty header has its first box broken, where that was to be: the loop's first round sees to it. */
        int readHeaderBoxes(int from, int end) {
            int place = from;
            for (int n = 0; n < MOST_FED && (n == 0 || place < end); n++) {
                int next = boxEnd(place, end, false);
                if (next == NONE) {
                    return place;
                }
                int size = next - place - BOX_HEAD;
                if (n == 0) {
                    if (kindAt(place) != KIND_IHDR || size != 14) {
                        return place;
                    }
                } else if (kindAt(place) == KIND_COLR && size >= 7 && bytes.get(place + BOX_HEAD) == 1) {
                    colour = (int) bytes.number(place + BOX_HEAD + 3, 4);
                } else {
                    keepUnknown(place, next);
                }
                place = next;
            }
            return FINE;
        }

        /** Where the box ends, or NONE if it is broken. */
        int boxEnd(int place, int end, boolean streamMayBeCut) {
            if (end - place < BOX_HEAD) {
                return NONE;
            }
            long length = bytes.number(place, 4);
            if (length == 0) {
                return end;
            }
            if (length < BOX_HEAD) {
                return NONE;
            }
            if (length > end - place) {
                return streamMayBeCut && kindAt(place) == KIND_JP2C ? end : NONE;
            }
            return place + (int) length;
        }

        int kindAt(int place) {
            return (int) bytes.number(place + 4, 4);
        }

        void keepUnknown(int place, int end) {
            unknownPlaces.append(place);
            unknownEnds.append(end);
        }
    }

    /** Reads the stream's head, and the segments of any head, into the settings. */
    private static final class HeadReader {
        final Bytes bytes;
        final Settings settings;
        int headEnd = 0;

        HeadReader(Bytes bytes, Settings settings) {
            this.bytes = bytes;
            this.settings = settings;
        }

        /** The place of what is broken or missing, or FINE. */
        int readHead(int from, int end) {
            if (!isCode(from, end, STREAM_BEGIN)) {
                return from;
            }
            int place = from + 2;
            int next = isCode(place, end, SIZES) ? segmentEnd(place, end) : NONE;
            if (next == NONE || !keepSizes(place, next)) {
                return place;
            }
            for (int n = 0; n < MOST_FED; n++) {
                place = next;
                if (isCode(place, end, PART_BEGIN) || isCode(place, end, STREAM_END)) {
                    headEnd = place;
                    return settings.hasStyleAndStepForAll() ? FINE : place;
                }
                next = segmentEnd(place, end);
                if (next == NONE || !keepSegment(place, next, ALL)) {
                    return place;
                }
            }
            return place;
        }

        boolean isCode(int place, int end, int code) {
            return end - place >= 2 && bytes.get(place) == MARK && bytes.get(place + 1) == code;
        }

        /** Where the segment ends, or NONE if it is not all there. */
        int segmentEnd(int place, int end) {
            if (end - place < 4 || bytes.get(place) != MARK) {
                return NONE;
            }
            int length = (int) bytes.number(place + 2, 2);
            return length >= 2 && length <= end - place - 2 ? place + 2 + length : NONE;
        }

        boolean keepSizes(int place, int next) {
            long components = bytes.number(place + 38, 2);
            if (!isWithin(COMPONENTS, components) || next - place != 40 + 3 * (int) components) {
                return false;
            }
            boolean zeros = bytes.number(place + 4, 2) == 0 && bytes.number(place + 14, 4) == 0
                    && bytes.number(place + 18, 4) == 0 && bytes.number(place + 30, 4) == 0
                    && bytes.number(place + 34, 4) == 0;
            return zeros && keepSides(place) && keepDepths(place + 40, (int) components);
        }

        boolean keepSides(int place) {
            long width = bytes.number(place + 6, 4);
            long height = bytes.number(place + 10, 4);
            long tileWidth = bytes.number(place + 22, 4);
            long tileHeight = bytes.number(place + 26, 4);
            if (!isWithin(WIDTH, width) || !isWithin(HEIGHT, height) || !isTileSide(tileWidth)
                    || !isTileSide(tileHeight)) {
                return false;
            }
            settings.sizes[WIDTH] = (int) width;
            settings.sizes[HEIGHT] = (int) height;
            settings.tileWidth = (int) tileWidth;
            settings.tileHeight = (int) tileHeight;
            return settings.tiles() <= MOST_TILES;
        }

        boolean keepDepths(int place, int components) {
            settings.sizes[COMPONENTS] = components;
            for (int c = 0; c < components; c++) {
                int depth = bytes.get(place + 3 * c) + 1;
                if (!isWithin(DEPTH, depth) || bytes.number(place + 3 * c + 1, 2) != 257) {
                    return false;
                }
                settings.changeDepth(c, depth);
            }
            return true;
        }

        static boolean isTileSide(long side) {
            return side >= 1 && side <= MOST_TILE_SIDE_READ;
        }

        static boolean isSegmentCode(int code) {
            return code == STYLE || code == STYLE_OF_COMPONENT || code == STEP || code == STEP_OF_COMPONENT;
        }

        /** Whether it is as it must be; what it tells is then held for the tile. */
        boolean keepSegment(int place, int next, int tile) {
            switch (bytes.get(place + 1)) {
                case STYLE:
                    return next - place == 14 && keepStyleForAll(place, tile)
                            && keepStyle(place + 8, Settings.slotOf(tile, ALL));
                case STYLE_OF_COMPONENT:
                    return next - place == 11 && settings.isComponent(bytes.get(place + 4))
                            && keepStyle(place + 5, Settings.slotOf(tile, bytes.get(place + 4)));
                case STEP:
                    return next - place == 7 && keepStep(place + 4, Settings.slotOf(tile, ALL));
                case STEP_OF_COMPONENT:
                    return next - place == 8 && settings.isComponent(bytes.get(place + 4))
                            && keepStep(place + 5, Settings.slotOf(tile, bytes.get(place + 4)));
                default:
                    return true;
            }
        }

        boolean keepStyleForAll(int place, int tile) {
            int order = bytes.get(place + 5);
            int layers = (int) bytes.number(place + 6, 2);
            if (bytes.get(place + 4) != 0 || !isWithin(ORDER, order) || !isWithin(LAYERS, layers)) {
                return false;
            }
            settings.hold(Settings.slotOf(tile, ALL), ORDER, order);
            settings.hold(Settings.slotOf(tile, ALL), LAYERS, layers);
            return true;
        }

        boolean keepStyle(int place, int slot) {
            int levels = bytes.get(place + 1);
            int block = bytes.get(place + 2) + 2;
            int waves = bytes.get(place + 5);
            boolean asTold = bytes.get(place) == 0 && bytes.get(place + 3) + 2 == block && bytes.get(place + 4) == 0;
            if (!asTold || !isWithin(LEVELS, levels) || !isWithin(BLOCK, block) || !isWithin(WAVES, waves)) {
                return false;
            }
            settings.hold(slot, LEVELS, levels);
            settings.hold(slot, BLOCK, block);
            settings.hold(slot, WAVES, waves);
            return true;
        }

        boolean keepStep(int place, int slot) {
            int guard = bytes.get(place);
            int exponent = (int) bytes.number(place + 1, 2);
            if (guard % 32 != 1 || exponent % 2048 != 0) {
                return false;
            }
            settings.hold(slot, GUARD, guard / 32);
            settings.hold(slot, EXPONENT, exponent / 2048);
            return true;
        }
    }

    /** Reads the tile parts; the settings of a tile come from its first part that is not spoilt. */
    private static final class PartReader {
        final Bytes bytes;
        final Settings settings;
        final HeadReader heads;
        final int[] tiles = new int[MOST_PARTS_READ];
        final int[] places = new int[MOST_PARTS_READ];
        final int[] starts = new int[MOST_PARTS_READ];
        final int[] sizes = new int[MOST_PARTS_READ];
        final int[] packets = new int[MOST_PARTS_READ];
        final boolean[] cuts = new boolean[MOST_PARTS_READ];
        final int[] partsOfTile = new int[MOST_TILES];
        final int[] lengths = new int[MOST_LENGTHS_READ];
        int lengthCount = 0;
        int count = 0;

        PartReader(Bytes bytes, Settings settings, HeadReader heads) {
            this.bytes = bytes;
            this.settings = settings;
            this.heads = heads;
        }

        void forget() {
            count = 0;
            for (int tile = 0; tile < MOST_TILES; tile++) {
                partsOfTile[tile] = 0;
            }
        }

        int numberOf(int k, int what) {
            switch (what) {
                case 0:
                    return tiles[k];
                case 1:
                    return places[k];
                case 2:
                    return sizes[k];
                case 3:
                    return packets[k];
                case 4:
                    return tiles[k] == NONE ? 1 : 0;
                case 5:
                    return cuts[k] ? 1 : 0;
                default:
                    return NONE;
            }
        }

        int spoiltOnes() {
            int many = 0;
            for (int k = 0; k < count; k++) {
                many += numberOf(k, 4);
            }
            return many;
        }

        int wholePackets() {
            int many = 0;
            for (int k = 0; k < count; k++) {
                many += packets[k];
            }
            return many;
        }

        void readParts(int from, int end) {
            int place = from;
            for (int k = 0; k < MOST_PARTS_READ && beginsPart(place, end); k++) {
                long length = bytes.number(place + 6, 4);
                boolean isCut = length > end - place;
                int next = isCut || length == 0 ? end : place + (int) length;
                places[k] = place;
                cuts[k] = isCut;
                readPart(k, next);
                count = k + 1;
                place = next;
            }
        }

        boolean beginsPart(int place, int end) {
            if (!heads.isCode(place, end, PART_BEGIN) || end - place < PART_HEAD) {
                return false;
            }
            long length = bytes.number(place + 6, 4);
            return length == 0 || length >= PART_HEAD + 2;
        }

        void readPart(int k, int end) {
            int place = places[k];
            int tile = (int) bytes.number(place + 4, 2);
            tiles[k] = NONE;
            starts[k] = 0;
            sizes[k] = 0;
            packets[k] = 0;
            if (bytes.number(place + 2, 2) != 10 || !settings.isTile(tile) || tile >= MOST_TILES
                    || bytes.get(place + 10) != partsOfTile[tile]) {
                return;
            }
            int start = readPartHead(place + PART_HEAD, end, tile);
            if (start != NONE && weigh(k, start, end)) {
                tiles[k] = tile;
                partsOfTile[tile]++;
            } else if (partsOfTile[tile] == 0) {
                settings.forgetTile(tile);
            }
        }

        /** Where the bytes of the packets begin, or NONE if the part is spoilt. */
        int readPartHead(int from, int end, int tile) {
            int place = from;
            lengthCount = 0;
            for (int n = 0; n < MOST_FED; n++) {
                if (heads.isCode(place, end, PART_BYTES)) {
                    return place + 2;
                }
                int next = heads.segmentEnd(place, end);
                if (next == NONE) {
                    return NONE;
                }
                int code = bytes.get(place + 1);
                boolean isLate = HeadReader.isSegmentCode(code) && partsOfTile[tile] > 0;
                boolean isFine = code == PACKET_LENGTHS ? keepLengths(place, next)
                        : !isLate && heads.keepSegment(place, next, tile);
                if (!isFine) {
                    return NONE;
                }
                place = next;
            }
            return NONE;
        }

        boolean keepLengths(int place, int end) {
            if (end - place < 5) {
                return false;
            }
            int length = 0;
            for (int i = place + 5; i < end; i++) {
                int b = bytes.get(i);
                // A length that is too great already must stay so, and not run over.
                length = Math.min(length, MOST_LENGTH_READ + 1) * 128 + b % 128;
                if (b < 128) {
                    if (length > MOST_LENGTH_READ || lengthCount >= MOST_LENGTHS_READ) {
                        return false;
                    }
                    lengths[lengthCount] = length;
                    lengthCount++;
                    length = 0;
                }
            }
            return true;
        }

        /** Whether the bytes are those that the lengths tell; of a part that is cut, the whole packets are kept. */
        boolean weigh(int k, int start, int end) {
            int there = end - start;
            int whole = 0;
            int size = 0;
            while (whole < lengthCount && lengths[whole] <= there - size) {
                size += lengths[whole];
                whole++;
            }
            if (!cuts[k] && (whole < lengthCount || size < there)) {
                return false;
            }
            starts[k] = start;
            sizes[k] = size;
            packets[k] = whole;
            return true;
        }
    }
}
