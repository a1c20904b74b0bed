/** What the tests of reading have in common. */
abstract class Reading {
    static final int HEAD = Build.head().size();
    static final Build NONE = new Build();

    static Build inner(int... bytes) {
        return new Build().bytes(bytes);
    }

    static Build lengths(int... lengths) {
        return new Build().lengths(lengths);
    }

    static WaveFiles read(String name, Build fed, int want) {
        WaveFiles x = fed.fed();
        Check.due(name, x.read(), want);
        return x;
    }

    /** Tile, place, bytes, packets, spoilt, cut of a part. */
    static void duePart(String name, WaveFiles x, int k, int... want) {
        for (int what = 0; what < want.length; what++) {
            Check.due(name + ": part(" + k + ", " + what + ")", x.part(k, what), want[what]);
        }
    }

    /** The first part of the stream, with a part behind it that is always as it should be. */
    static void dueSpoilt(String name, Build part, int spoilt) {
        WaveFiles x = read(name, Build.head().add(part).part(3, 0, lengths(1), 77).end(), 2);
        Check.due(name + ": spoilt", x.part(0, 4), spoilt);
        Check.due(name + ": the next one is not", x.part(1, 4), 0);
        Check.due(name + ": its byte", x.partByte(1, 0), 77);
    }
}
