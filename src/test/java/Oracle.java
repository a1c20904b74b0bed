import java.util.ArrayList;
import java.util.HashMap;
import java.util.List;
import java.util.Map;

/** A second reader, written from the document's words alone and with all of the Java library, to compare with. */
final class Oracle {
    private static final class Broken extends RuntimeException {
        private static final long serialVersionUID = 1L;
        final int place;

        Broken(int place) {
            this.place = place;
        }
    }

    static final class Part {
        int tile = -1;
        int place;
        boolean spoilt = true;
        boolean cut;
        int packets;
        List<Integer> data = new ArrayList<>();
    }

    static final class Unknown {
        int kind;
        List<Integer> data;
    }

    final List<Integer> fed;
    final List<Part> parts = new ArrayList<>();
    final List<Unknown> unknown = new ArrayList<>();
    final int[] sizes = new int[3];
    final int[] depths = new int[4];
    /** By "tile/component/what". */
    Map<String, Integer> numbers = new HashMap<>();
    int tiles;
    int colour = -1;
    int answer;
    boolean isRead;

    Oracle(List<Integer> fed) {
        this.fed = fed;
        try {
            if (fed.size() >= 2 && fed.get(0) == 255 && fed.get(1) == 79) {
                stream(0, fed.size());
            } else {
                file();
            }
            isRead = true;
            answer = parts.size();
        } catch (Broken e) {
            parts.clear();
            answer = -1 - e.place;
        }
    }

    private long number(int at, int bytes) {
        long v = 0;
        for (int b : fed.subList(at, at + bytes)) {
            v = v << 8 | b;
        }
        return v;
    }

    private static void must(boolean holds, int place) {
        if (!holds) {
            throw new Broken(place);
        }
    }

    private int endOfBox(int at, int end, boolean top) {
        must(end - at >= 8, at);
        long length = number(at, 4);
        must(length == 0 || length >= 8, at);
        boolean over = at + length > end;
        boolean stream = top && number(at + 4, 4) == Build.kind("jp2c");
        must(!over || stream, at);
        return length == 0 || over ? end : (int) (at + length);
    }

    private void file() {
        must(fed.size() >= 12 && fed.subList(0, 12).equals(List.of(0, 0, 0, 12, 106, 80, 32, 32, 13, 10, 135, 10)), 0);
        int at = 12;
        while (at < fed.size()) {
            int end = endOfBox(at, fed.size(), true);
            int kind = (int) number(at + 4, 4);
            if (kind == Build.kind("jp2c")) {
                stream(at + 8, end);
                return;
            } else if (kind == Build.kind("jp2h")) {
                header(at + 8, end);
            } else if (kind != Build.kind("ftyp")) {
                keep(at, end);
            }
            at = end;
        }
        throw new Broken(at);
    }

    private void keep(int at, int end) {
        Unknown u = new Unknown();
        u.kind = (int) number(at + 4, 4);
        u.data = new ArrayList<>(fed.subList(at + 8, end));
        unknown.add(u);
    }

    private void header(int at, int end) {
        int first = endOfBox(at, end, false);
        must(number(at + 4, 4) == Build.kind("ihdr") && first - at == 22, at);
        at = first;
        while (at < end) {
            int next = endOfBox(at, end, false);
            if (number(at + 4, 4) == Build.kind("colr") && next - at >= 15 && fed.get(at + 8) == 1) {
                colour = (int) number(at + 11, 4);
            } else {
                keep(at, next);
            }
            at = next;
        }
    }

    private boolean code(int at, int end, int code) {
        return at + 2 <= end && fed.get(at) == 255 && fed.get(at + 1) == code;
    }

    private int endOfSegment(int at, int end) {
        must(at + 4 <= end && fed.get(at) == 255, at);
        int length = (int) number(at + 2, 2);
        must(length >= 2 && at + 2 + length <= end, at);
        return at + 2 + length;
    }

    private void stream(int at, int end) {
        must(code(at, end, 79), at);
        at += 2;
        must(code(at, end, 81), at);
        int next = endOfSegment(at, end);
        sizes(at, next);
        at = next;
        while (!code(at, end, 144) && !code(at, end, 217)) {
            next = endOfSegment(at, end);
            segment(at, next, -1);
            at = next;
        }
        must(numbers.containsKey("-1/-1/4") && numbers.containsKey("-1/-1/9"), at);
        parts(at, end);
    }

    private void sizes(int at, int end) {
        must(end - at >= 40, at);
        int components = (int) number(at + 38, 2);
        must(components >= 1 && components <= 4 && end - at == 40 + 3 * components, at);
        long[] v = {number(at + 6, 4), number(at + 10, 4), number(at + 22, 4), number(at + 26, 4)};
        for (int i = 0; i < 4; i++) {
            must(v[i] >= 1 && v[i] <= (i < 2 ? 2000 : 65536), at);
        }
        must(number(at + 4, 2) == 0 && number(at + 14, 4) == 0 && number(at + 18, 4) == 0, at);
        must(number(at + 30, 4) == 0 && number(at + 34, 4) == 0, at);
        tiles = (int) ((v[0] + v[2] - 1) / v[2] * ((v[1] + v[3] - 1) / v[3]));
        must(tiles <= 24, at);
        sizes[0] = (int) v[0];
        sizes[1] = (int) v[1];
        sizes[2] = components;
        for (int c = 0; c < components; c++) {
            depths[c] = fed.get(at + 40 + 3 * c) + 1;
            must(depths[c] <= 16 && fed.get(at + 41 + 3 * c) == 1 && fed.get(at + 42 + 3 * c) == 1, at);
        }
    }

    private void put(int tile, int component, int what, int v) {
        numbers.put(tile + "/" + component + "/" + what, v);
    }

    private void segment(int at, int end, int tile) {
        int code = fed.get(at + 1);
        int[] lengths = new int[256];
        lengths[82] = 14;
        lengths[83] = 11;
        lengths[92] = 7;
        lengths[93] = 8;
        if (lengths[code] == 0) {
            return;
        }
        must(lengths[code] == end - at, at);
        boolean ofComponent = code == 83 || code == 93;
        int component = ofComponent ? fed.get(at + 4) : -1;
        must(component < sizes[2], at);
        if (code == 82) {
            int layers = (int) number(at + 6, 2);
            must(fed.get(at + 4) == 0 && fed.get(at + 5) <= 4 && layers >= 1 && layers <= 1000, at);
            put(tile, component, 4, fed.get(at + 5));
            put(tile, component, 5, layers);
        }
        if (code < 90) {
            List<Integer> tail = fed.subList(end - 6, end);
            must(tail.get(0) == 0 && tail.get(1) <= 5 && tail.get(2) <= 4, at);
            must(tail.get(3).equals(tail.get(2)) && tail.get(4) == 0 && tail.get(5) <= 1, at);
            put(tile, component, 6, tail.get(1));
            put(tile, component, 7, tail.get(2) + 2);
            put(tile, component, 8, tail.get(5));
        } else {
            must((fed.get(end - 3) & 31) == 1 && (number(end - 2, 2) & 2047) == 0, at);
            put(tile, component, 9, (int) number(end - 2, 2) >> 11);
            put(tile, component, 10, fed.get(end - 3) >> 5);
        }
    }

    private void parts(int at, int end) {
        Map<Integer, Integer> seen = new HashMap<>();
        while (parts.size() < 300 && code(at, end, 144) && at + 12 <= end) {
            long length = number(at + 6, 4);
            if (length != 0 && length < 14) {
                return;
            }
            Part part = new Part();
            parts.add(part);
            part.place = at;
            part.cut = at + length > end;
            int next = length == 0 || part.cut ? end : (int) (at + length);
            Map<String, Integer> before = new HashMap<>(numbers);
            try {
                part(part, at, next, seen);
                part.spoilt = false;
                part.tile = (int) number(at + 4, 2);
                seen.merge(part.tile, 1, Integer::sum);
            } catch (Broken e) {
                numbers = before;
                part.packets = 0;
                part.data.clear();
            }
            at = next;
        }
    }

    private void part(Part part, int at, int end, Map<Integer, Integer> seen) {
        int tile = (int) number(at + 4, 2);
        must(number(at + 2, 2) == 10 && tile < tiles, at);
        must(fed.get(at + 10).equals(seen.getOrDefault(tile, 0)), at);
        List<Long> lengths = new ArrayList<>();
        int p = at + 12;
        while (!code(p, end, 147)) {
            int next = endOfSegment(p, end);
            int code = fed.get(p + 1);
            if (code == 88) {
                lengths(p, next, lengths);
            } else {
                must(!List.of(82, 83, 92, 93).contains(code) || !seen.containsKey(tile), p);
                segment(p, next, tile);
            }
            p = next;
        }
        p += 2;
        long sum = 0;
        for (long length : lengths) {
            sum += length;
            if (p + sum <= end) {
                part.packets++;
                part.data = new ArrayList<>(fed.subList(p, (int) (p + sum)));
            }
        }
        must(part.cut || sum == end - p, at);
    }

    private void lengths(int at, int end, List<Long> lengths) {
        must(end - at >= 5, at);
        java.math.BigInteger v = java.math.BigInteger.ZERO;
        for (int b : fed.subList(at + 5, end)) {
            v = v.shiftLeft(7).add(java.math.BigInteger.valueOf(b & 127));
            if (b < 128) {
                must(v.compareTo(java.math.BigInteger.valueOf(100000)) <= 0, at);
                lengths.add(v.longValue());
                v = java.math.BigInteger.ZERO;
            }
        }
        must(lengths.size() <= 200, at);
    }

    int at(int what, int tile, int component) {
        if (what <= 2) {
            return sizes[what];
        }
        if (what == 3) {
            return depths[component];
        }
        int c = what <= 5 ? -1 : component;
        for (String place : new String[] {tile + "/" + c, tile + "/-1", "-1/" + c, "-1/-1"}) {
            if (numbers.containsKey(place + "/" + what)) {
                return numbers.get(place + "/" + what);
            }
        }
        throw new IllegalStateException("no such number");
    }
}
