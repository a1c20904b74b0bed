import java.util.Arrays;

/** Puts bytes together by the document's words, without the class that is tested. */
final class Build {
    private int[] row = new int[64];
    private int count = 0;

    int size() {
        return count;
    }

    int get(int i) {
        return row[i];
    }

    int[] all() {
        return Arrays.copyOf(row, count);
    }

    Build bytes(int... more) {
        for (int b : more) {
            if (count == row.length) {
                row = Arrays.copyOf(row, 2 * count);
            }
            row[count++] = b;
        }
        return this;
    }

    Build two(int v) {
        return bytes(v >> 8 & 255, v & 255);
    }

    Build four(long v) {
        return bytes((int) (v >> 24 & 255), (int) (v >> 16 & 255), (int) (v >> 8 & 255), (int) (v & 255));
    }

    Build add(Build other) {
        return bytes(other.all());
    }

    Build alter(int i, int b) {
        row[i] = b;
        return this;
    }

    Build cut(int n) {
        count = Math.min(n, count);
        return this;
    }

    static int kind(String signs) {
        return signs.charAt(0) << 24 | signs.charAt(1) << 16 | signs.charAt(2) << 8 | signs.charAt(3);
    }

    Build box(String kind, Build inner) {
        return four(8 + inner.size()).four(kind(kind)).add(inner);
    }

    Build boxOfLength(long length, String kind, Build inner) {
        return four(length).four(kind(kind)).add(inner);
    }

    Build begin() {
        return bytes(255, 79);
    }

    Build end() {
        return bytes(255, 217);
    }

    Build sizes(long width, long height, long tileWidth, long tileHeight, int... depths) {
        bytes(255, 81).two(38 + 3 * depths.length).two(0).four(width).four(height).four(0).four(0);
        four(tileWidth).four(tileHeight).four(0).four(0).two(depths.length);
        for (int depth : depths) {
            bytes(depth - 1, 1, 1);
        }
        return this;
    }

    Build style(int order, int layers, int levels, int block, int waves) {
        return bytes(255, 82).two(12).bytes(0, order).two(layers).bytes(0, levels, block - 2, block - 2, 0, waves);
    }

    Build styleOf(int component, int levels, int block, int waves) {
        return bytes(255, 83).two(9).bytes(component, 0, levels, block - 2, block - 2, 0, waves);
    }

    Build step(int exponent, int guard) {
        return bytes(255, 92).two(5).bytes(32 * guard + 1).two(2048 * exponent);
    }

    Build stepOf(int component, int exponent, int guard) {
        return bytes(255, 93).two(6).bytes(component, 32 * guard + 1).two(2048 * exponent);
    }

    /** A 255 88 with the lengths in seven bits a byte. */
    Build lengths(int... lengths) {
        Build inner = new Build();
        for (int length : lengths) {
            for (int shift = 28; shift > 0; shift -= 7) {
                if (length >> shift != 0) {
                    inner.bytes(128 | length >> shift & 127);
                }
            }
            inner.bytes(length & 127);
        }
        return bytes(255, 88).two(3 + inner.size()).bytes(0).add(inner);
    }

    /** A tile part with what stands in its head behind the first twelve bytes, and its bytes. */
    Build part(int tile, int number, Build head, int... data) {
        return partOfLength(14 + head.size() + data.length, tile, number, head, data);
    }

    Build partOfLength(long length, int tile, int number, Build head, int... data) {
        return bytes(255, 144).two(10).two(tile).four(length).bytes(number, 0).add(head).bytes(255, 147).bytes(data);
    }

    /** The head of a stream of 2 x 2 tiles with two components, so far without an end. */
    static Build head() {
        return new Build().begin().sizes(10, 8, 5, 4, 8, 12).style(1, 3, 5, 4, 1).step(8, 2);
    }

    static Build signature() {
        return new Build().box("jP  ", new Build().bytes(13, 10, 135, 10));
    }

    static Build fileType() {
        Build inner = new Build().four(kind("jp2 ")).four(0).four(kind("jp2 "));
        return new Build().box("ftyp", inner);
    }

    static Build pictureHeader(int height, int width, int components, int depth) {
        Build inner = new Build().four(height).four(width).two(components).bytes(depth - 1, 7, 0, 0);
        return new Build().box("ihdr", inner);
    }

    WaveFiles fedTo(WaveFiles x) {
        for (int i = 0; i < count; i++) {
            x.feed(row[i]);
        }
        return x;
    }

    WaveFiles fed() {
        return fedTo(new WaveFiles(1, 1));
    }
}
