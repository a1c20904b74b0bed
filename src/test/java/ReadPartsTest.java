/** Promises 14, 16 and 17, where they speak of tile parts: read, part, partByte. */
public final class ReadPartsTest {
    private static final int HEAD = Build.head().size();

    public static void main(String[] args) {
        parts();
        whereReadingEnds();
        spoiltByNumbers();
        spoiltByHead();
        spoiltByLengths();
        lengthsThatAreNone();
        cutParts();
        lengthZero();
        settingsOfSpoiltParts();
        keptParts();
        fewerParts();
        threeHundred();
        Check.finish();
    }

    private static Build lengths(int... lengths) {
        return new Build().lengths(lengths);
    }

    private static WaveFiles read(String name, Build fed, int want) {
        WaveFiles x = fed.fed();
        Check.due(name, x.read(), want);
        return x;
    }

    private static void due(String name, WaveFiles x, int k, int... want) {
        for (int what = 0; what < want.length; what++) {
            Check.due(name + ": part(" + k + ", " + what + ")", x.part(k, what), want[what]);
        }
    }

    /** Whether the first part is spoilt, when a second one behind it is not. */
    private static void dueSpoilt(String name, Build part, int spoilt) {
        Build fed = Build.head().add(part);
        int second = fed.size();
        WaveFiles x = read(name, fed.part(3, 0, lengths(1), 77).end(), 2);
        Check.due(name + ": spoilt", x.part(0, 4), spoilt);
        Check.due(name + ": its tile", x.part(0, 0), spoilt == 1 ? -1 : 0);
        Check.due(name + ": told", x.told(7), spoilt);
        if (spoilt == 1) {
            due(name, x, 0, -1, HEAD, 0, 0, 1, 0);
            Check.dueIndex(name + ": no byte", () -> x.partByte(0, 0));
        }
        due(name, x, 1, 3, second, 1, 1, 0, 0);
        Check.due(name + ": the second one's byte", x.partByte(1, 0), 77);
    }

    private static void parts() {
        Build fed = Build.head().part(2, 0, lengths(2, 0, 1), 7, 8, 255).part(0, 0, new Build())
                .part(2, 1, lengths(0)).end().part(1, 0, new Build());
        WaveFiles x = read("three parts", fed, 3);
        int size = 14 + 8 + 3;
        due("first", x, 0, 2, HEAD, 3, 3, 0, 0, -1);
        due("second", x, 1, 0, HEAD + size, 0, 0, 0, 0, -1);
        due("third", x, 2, 2, HEAD + size + 14, 0, 1, 0, 0, -1);
        Check.due("what -1", x.part(0, -1), -1);
        Check.dueIndex("part 3", () -> x.part(3, 0));
        Check.dueIndex("part 3, what 9", () -> x.part(3, 9));
        Check.dueIndex("part -1", () -> x.part(-1, 0));
        Check.due("first byte", x.partByte(0, 0), 7);
        Check.due("last byte", x.partByte(0, 2), 255);
        Check.dueIndex("byte 3", () -> x.partByte(0, 3));
        Check.dueIndex("byte -1", () -> x.partByte(0, -1));
        Check.dueIndex("of part 3", () -> x.partByte(3, 0));
        Check.dueIndex("of part -1", () -> x.partByte(-1, 0));
        Check.due("packets", x.told(8), 4);
        Check.due("parts", x.told(5), 3);
        Check.dueState("part before a read", () -> new WaveFiles(1, 1).part(-1, 0));
        Check.dueState("partByte before a read", () -> new WaveFiles(1, 1).partByte(-1, 0));
    }

    private static void whereReadingEnds() {
        Build one = Build.head().part(0, 0, lengths(1), 5);
        int place = one.size();
        read("at the end", new Build().add(one), 1);
        read("at 255 217", new Build().add(one).end().part(1, 0, new Build()), 1);
        read("at another byte", new Build().add(one).bytes(0).part(1, 0, new Build()), 1);
        read("at another code", new Build().add(one).bytes(255, 82).part(1, 0, new Build()), 1);
        for (int n = 1; n < 12; n++) {
            read(n + " bytes of a part", new Build().add(one).part(1, 0, new Build()).cut(place + n), 1);
        }
        WaveFiles x = read("12 bytes of a part", new Build().add(one).part(1, 0, new Build()).cut(place + 12), 2);
        due("they are spoilt and cut", x, 1, -1, place, 0, 0, 1, 1);
        for (int n = 1; n < 14; n++) {
            read("length " + n, new Build().add(one).partOfLength(n, 1, 0, new Build()), 1);
        }
        read("length 14", new Build().add(one).partOfLength(14, 1, 0, new Build()), 2);
        WaveFiles y = read("the greatest length", new Build().add(one).partOfLength(0xFFFFFFFFL, 1, 0, new Build()), 2);
        due("it is cut", y, 1, 1, place, 0, 0, 0, 1);
        WaveFiles z = read("no part at all", Build.head().bytes(255, 144, 0, 10), 0);
        Check.due("yet the head is read", z.at(0, 0, 0), 10);
        Check.due("no parts", z.told(5), 0);
    }

    private static void spoiltByNumbers() {
        dueSpoilt("none", new Build().part(0, 0, lengths(2), 1, 2), 0);
        dueSpoilt("length of its beginning 9", new Build().part(0, 0, new Build()).alter(3, 9), 1);
        dueSpoilt("length of its beginning 266", new Build().part(0, 0, new Build()).alter(2, 1), 1);
        dueSpoilt("tile 4", new Build().part(4, 0, new Build()), 1);
        dueSpoilt("tile 65535", new Build().part(65535, 0, new Build()), 1);
        dueSpoilt("number 1", new Build().part(0, 1, new Build()), 1);
        dueSpoilt("number 255", new Build().part(0, 255, new Build()), 1);
        dueSpoilt("the last of its 12 bytes is free", new Build().part(0, 0, new Build()).alter(11, 7), 0);
        Build none = new Build();
        WaveFiles x = read("numbers", Build.head().part(0, 0, none).part(0, 0, none).part(0, 2, none).part(0, 1, none)
                .part(1, 1, none).part(1, 0, none).part(0, 2, none), 7);
        int[] spoilt = {0, 1, 1, 0, 1, 0, 0};
        for (int k = 0; k < spoilt.length; k++) {
            Check.due("spoilt " + k, x.part(k, 4), spoilt[k]);
        }
        Check.due("told", x.told(7), 3);
    }

    private static void spoiltByHead() {
        Build none = new Build();
        dueSpoilt("no 255 147", new Build().part(0, 0, none).alter(13, 146), 1);
        dueSpoilt("no 255 there", new Build().part(0, 0, none).alter(12, 0), 1);
        dueSpoilt("a length of its head too great", new Build().part(0, 0, new Build().bytes(255, 100).two(5)), 1);
        dueSpoilt("a length of its head below 2", new Build().part(0, 0, new Build().bytes(255, 100).two(1)), 1);
        dueSpoilt("another code", new Build().part(0, 0, new Build().bytes(255, 100).two(3).bytes(9)), 0);
        dueSpoilt("sizes are passed over", new Build().part(0, 0, new Build().sizes(9, 9, 9, 9, 9)), 0);
        dueSpoilt("a style", new Build().part(0, 0, new Build().style(1, 2, 3, 4, 1)), 0);
        dueSpoilt("a broken style", new Build().part(0, 0, new Build().style(5, 2, 3, 4, 1)), 1);
        dueSpoilt("a broken style of a component", new Build().part(0, 0, new Build().styleOf(2, 3, 4, 1)), 1);
        dueSpoilt("a step", new Build().part(0, 0, new Build().stepOf(1, 3, 4)), 0);
        dueSpoilt("a broken step", new Build().part(0, 0, new Build().stepOf(2, 3, 4)), 1);
        Build[] segments = {new Build().style(1, 2, 3, 4, 1), new Build().styleOf(1, 3, 4, 1), new Build().step(1, 2),
            new Build().stepOf(1, 2, 3)};
        for (Build segment : segments) {
            WaveFiles x = read("a segment in a second part", Build.head().part(0, 0, new Build()).part(0, 1, segment)
                    .part(0, 1, new Build()), 3);
            Check.due("the first", x.part(0, 4), 0);
            Check.due("the second", x.part(1, 4), 1);
            Check.due("the third", x.part(2, 4), 0);
            Check.due("it counts for nothing", x.at(6, 0, 1), 5);
            Check.due("it counts for nothing", x.at(9, 0, 1), 8);
        }
        WaveFiles y = read("other codes in a second part", Build.head().part(0, 0, new Build())
                .part(0, 1, new Build().bytes(255, 100).two(2).lengths(1), 9), 2);
        Check.due("are fine", y.part(1, 4), 0);
    }

    private static void spoiltByLengths() {
        dueSpoilt("a byte too many", new Build().part(0, 0, lengths(2), 1, 2, 3), 1);
        dueSpoilt("a byte too few", new Build().part(0, 0, lengths(2, 1), 1, 2), 1);
        dueSpoilt("bytes without lengths", new Build().part(0, 0, new Build(), 1), 1);
        dueSpoilt("lengths without bytes", new Build().part(0, 0, lengths(1)), 1);
        dueSpoilt("empty packets alone", new Build().part(0, 0, lengths(0, 0)), 0);
        Build more = lengths(1, 2).lengths().lengths(1);
        WaveFiles x = read("two of lengths", Build.head().part(0, 0, more, 1, 2, 3, 4), 1);
        due("they count together", x, 0, 0, HEAD, 4, 3, 0, 0);
        Build numbered = new Build().bytes(255, 88).two(4).bytes(200, 1);
        dueSpoilt("whatever the byte behind the length", new Build().part(0, 0, numbered, 5), 0);
        dueSpoilt("but it must be there", new Build().part(0, 0, new Build().bytes(255, 88).two(2)), 1);
        dueSpoilt("it alone is fine", new Build().part(0, 0, new Build().bytes(255, 88).two(3).bytes(0)), 0);
        Build wide = new Build().bytes(255, 88).two(7).bytes(0, 128, 128, 128, 2);
        dueSpoilt("a length in more bytes than it takes", new Build().part(0, 0, wide, 5, 6), 0);
    }

    private static void lengthsThatAreNone() {
        Build half = new Build().bytes(255, 88).two(5).bytes(0, 1, 129);
        dueSpoilt("a length without its last byte", new Build().part(0, 0, half, 5), 0);
        Build apart = new Build().add(half).bytes(255, 88).two(4).bytes(0, 2);
        dueSpoilt("it does not go on in the next", new Build().part(0, 0, apart, 5, 6, 7), 0);
        Build endless = new Build().bytes(255, 88).two(12).bytes(0, 255, 255, 255, 255, 255, 255, 255, 255, 255);
        dueSpoilt("a great one without its last byte", new Build().part(0, 0, endless), 0);
        dueSpoilt("a great one with it", new Build().part(0, 0, new Build().add(endless).alter(13, 127)), 1);
        dueSpoilt("two hundred", new Build().part(0, 0, lengths(new int[200])), 0);
        dueSpoilt("one more", new Build().part(0, 0, lengths(new int[201])), 1);
        dueSpoilt("one more in the next", new Build().part(0, 0, lengths(new int[200]).lengths(0)), 1);
        Build fed = Build.head().partOfLength(50000, 0, 0, lengths(1, 100000), 4, 5);
        WaveFiles x = read("100000 in a part that is cut", fed, 1);
        due("it is not there whole", x, 0, 0, HEAD, 1, 1, 0, 1);
        WaveFiles y = read("100001", Build.head().partOfLength(50000, 0, 0, lengths(1, 100001), 4, 5), 1);
        due("can't be", y, 0, -1, HEAD, 0, 0, 1, 1);
        WaveFiles z = read("201 cut", Build.head().partOfLength(50000, 0, 0, lengths(new int[201]), 4, 5), 1);
        due("can't be", z, 0, -1, HEAD, 0, 0, 1, 1);
        Build run = new Build().bytes(255, 88).two(9).bytes(0, 144, 128, 128, 128, 128, 1);
        dueSpoilt("a length that would run over", new Build().part(0, 0, run, 5), 1);
    }

    private static void cutParts() {
        Build whole = Build.head().part(0, 0, lengths(2, 0, 3, 0), 1, 2, 3, 4, 5);
        int start = whole.size() - 5;
        int[] packets = {0, 0, 2, 2, 2};
        int[] bytes = {0, 0, 2, 2, 2};
        for (int n = 0; n < 5; n++) {
            WaveFiles x = read("cut", new Build().add(whole).cut(start + n), 1);
            due("cut behind " + n, x, 0, 0, HEAD, bytes[n], packets[n], 0, 1);
            Check.due("packets", x.told(8), packets[n]);
            int size = bytes[n];
            Check.dueIndex("no other bytes", () -> x.partByte(0, size));
        }
        due("not cut", read("not cut", new Build().add(whole), 1), 0, 0, HEAD, 5, 4, 0, 0);
        for (int n = HEAD + 12; n < start; n++) {
            due("cut in its head", read("cut", new Build().add(whole).cut(n), 1), 0, -1, HEAD, 0, 0, 1, 1);
        }
        WaveFiles x = read("more bytes than told", Build.head().partOfLength(99, 0, 0, lengths(1, 1), 7, 8, 9), 1);
        due("they are no packet's", x, 0, 0, HEAD, 2, 2, 0, 1);
        Check.dueIndex("they are not there", () -> x.partByte(0, 2));
        WaveFiles y = read("without lengths", Build.head().partOfLength(99, 0, 0, new Build(), 7, 8, 9), 1);
        due("no packets", y, 0, 0, HEAD, 0, 0, 0, 1);
        WaveFiles z = read("cut and none", Build.head().partOfLength(99, 9, 0, new Build(), 7, 8, 9), 1);
        due("spoilt and cut", z, 0, -1, HEAD, 0, 0, 1, 1);
    }

    private static void lengthZero() {
        Build second = new Build().partOfLength(0, 0, 0, lengths(2), 7, 8);
        WaveFiles x = read("to the end", Build.head().part(1, 0, new Build()).add(second), 2);
        due("it is whole", x, 1, 0, HEAD + 14, 2, 1, 0, 0);
        WaveFiles y = read("to the end", Build.head().partOfLength(0, 0, 0, lengths(2), 7, 8).end(), 1);
        due("255 217 is in it", y, 0, -1, HEAD, 0, 0, 1, 0);
        WaveFiles z = read("to the end", Build.head().partOfLength(0, 0, 0, lengths(4), 7, 8).end(), 1);
        due("255 217 is in it", z, 0, 0, HEAD, 4, 1, 0, 0);
        WaveFiles w = read("twelve bytes", Build.head().partOfLength(0, 0, 0, new Build()).cut(HEAD + 12), 1);
        due("spoilt, not cut", w, 0, -1, HEAD, 0, 0, 1, 0);
    }

    private static void settingsOfSpoiltParts() {
        Build segments = new Build().style(4, 9, 1, 2, 0).styleOf(1, 2, 3, 0).step(3, 3).stepOf(0, 4, 4);
        WaveFiles x = read("spoilt", Build.head().part(0, 0, segments, 1), 1);
        int[] want = {10, 8, 2, 8, 1, 3, 5, 4, 1, 8, 2};
        for (int what = 0; what < want.length; what++) {
            Check.due("at(" + what + ") of a spoilt part", x.at(what, 0, 0), want[what]);
        }
        Check.due("levels of component 1", x.at(6, 0, 1), 5);
        WaveFiles y = read("spoilt, then another first one", Build.head().part(0, 0, segments, 1)
                .part(0, 0, new Build().styleOf(0, 0, 6, 1)).part(1, 0, segments), 3);
        Check.due("the second is the first of its tile", y.part(1, 4), 0);
        Check.due("its levels", y.at(6, 0, 0), 0);
        Check.due("no order of the spoilt one", y.at(4, 0, 0), 1);
        Check.due("no exponent of the spoilt one", y.at(9, 0, 0), 8);
        Check.due("the other tile's order", y.at(4, 1, 0), 4);
        Check.due("the other tile's levels", y.at(6, 1, 1), 2);
        Check.due("the other tile's exponent", y.at(9, 1, 0), 4);
        WaveFiles z = read("a spoilt one behind a good one", Build.head().part(0, 0, segments).part(0, 0, segments, 1)
                .part(0, 1, new Build(), 1), 3);
        Check.due("leaves the good one's settings", z.at(4, 0, 0), 4);
        Check.due("leaves the good one's settings", z.at(6, 0, 1), 2);
        WaveFiles w = read("a cut one", Build.head().partOfLength(999, 0, 0, segments, 1), 1);
        Check.due("is not spoilt, and sets", w.at(5, 0, 0), 9);
        WaveFiles v = read("twice in one head", Build.head().part(0, 0, new Build().step(1, 1).step(2, 2)), 1);
        Check.due("the later one counts", v.at(9, 0, 0), 2);
    }

    private static void keptParts() {
        WaveFiles x = read("kept", Build.head().part(0, 0, lengths(1), 9), 1);
        int last = x.told(4) - 1;
        x.alter(last, 8);
        Check.due("what was read stays", x.partByte(0, 0), 9);
        x.cut(0);
        Check.due("what was read stays", x.partByte(0, 0), 9);
        Check.due("what was read stays", x.part(0, 2), 1);
        Check.due("till the next read", x.read(), -1);
        Check.dueState("part", () -> x.part(0, 0));
        Check.dueState("partByte", () -> x.partByte(0, 0));
    }

    private static void fewerParts() {
        Build one = Build.head().part(0, 0, lengths(1), 8);
        WaveFiles x = read("two parts", new Build().add(one).part(1, 0, lengths(1), 9), 2);
        Check.due("the second one's byte", x.partByte(1, 0), 9);
        x.cut(one.size());
        Check.due("one part", x.read(), 1);
        Check.dueIndex("the second one is gone", () -> x.part(1, 0));
        Check.dueIndex("with its byte", () -> x.partByte(1, 0));
    }

    private static void threeHundred() {
        Build fed = Build.head();
        for (int i = 0; i < 301; i++) {
            fed.part(i % 4, i / 4, new Build());
        }
        WaveFiles x = read("301 parts", fed, 300);
        Check.due("told", x.told(5), 300);
        Check.due("the last", x.part(299, 1), HEAD + 299 * 14);
        Check.dueIndex("no more", () -> x.part(300, 0));
        Check.due("none is spoilt", x.told(7), 0);
        Build same = Build.head();
        for (int i = 0; i < 258; i++) {
            same.part(0, i & 255, new Build());
        }
        WaveFiles y = read("258 parts of a tile", same, 258);
        Check.due("the 256th", y.part(255, 4), 0);
        Check.due("no byte can tell 256", y.part(256, 4), 1);
        Check.due("no byte can tell 256", y.part(257, 4), 1);
    }
}
