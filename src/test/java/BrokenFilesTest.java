import java.util.ArrayList;
import java.util.List;
import java.util.Random;

/** Promises 2 to 18 over many files that are made, broken and cut by chance, always the same ones. */
public final class BrokenFilesTest {
    private static final int ROUNDS = 1500;
    private static final int[] FAVOURITES = {0, 1, 2, 5, 9, 10, 12, 14, 79, 81, 82, 83, 88, 92, 93, 100, 128, 144, 147,
        217, 255};

    private final Random random;
    private final List<Integer> fed = new ArrayList<>();
    private WaveFiles x;

    private BrokenFilesTest(int seed) {
        random = new Random(seed);
    }

    public static void main(String[] args) {
        int whole = 0;
        int spoilt = 0;
        int broken = 0;
        for (int round = 0; round < ROUNDS; round++) {
            BrokenFilesTest test = new BrokenFilesTest(round);
            test.make();
            for (int i = 0; i < 12; i++) {
                int answer = test.readAndCompare("round " + round + "." + i);
                whole += answer >= 0 && test.x.told(7) == 0 ? 1 : 0;
                spoilt += answer >= 0 && test.x.told(7) > 0 ? 1 : 0;
                broken += answer < 0 ? 1 : 0;
                test.spoil();
            }
        }
        System.out.println(whole + " read whole, " + spoilt + " with spoilt parts, " + broken + " broken");
        Check.yes("each way of reading was met often", whole > 500 && spoilt > 500 && broken > 500);
        Check.finish();
    }

    private int any(int least, int most) {
        return least + random.nextInt(most - least + 1);
    }

    private void make() {
        x = new WaveFiles(any(1, 20), any(1, 20));
        tryTo(() -> x.set(0, -1, -1, any(1, 60)));
        tryTo(() -> x.set(1, -1, -1, any(1, 60)));
        x.set(2, -1, -1, any(1, 4));
        for (int i = any(0, 20); i > 0; i--) {
            tryTo(() -> x.set(any(3, 10), any(-1, x.told(0) - 1), any(-1, 3), any(0, 12)));
        }
        for (int i = any(0, 8); i > 0; i--) {
            int part = x.tilePart(any(0, Math.min(2, x.told(0) - 1)));
            for (int p = any(0, 4); p > 0; p--) {
                x.packet(part);
                for (int b = any(0, 9) == 0 ? any(120, 140) : any(0, 4); b > 0; b--) {
                    tryTo(() -> x.byteOf(part, any(0, 255)));
                }
            }
        }
        for (int i = any(0, 4); i > 0; i--) {
            int box = x.box(random.nextBoolean(), Build.kind(random.nextBoolean() ? "colr" : "res "));
            for (int b = any(0, 9); b > 0; b--) {
                x.boxByte(box, any(0, 2));
            }
        }
        int n = x.write();
        int stream = streamPlace(n);
        passAll(random.nextBoolean() ? 0 : stream, n);
    }

    /** Every stream has the 255 79 255 81 at its beginning; nothing before it has a 255. */
    private int streamPlace(int n) {
        for (int i = 0; i < n; i++) {
            if (x.byteAt(i) == 255) {
                return i;
            }
        }
        return 0;
    }

    private void passAll(int from, int n) {
        x.pass(from, n);
        for (int i = from; i < n; i++) {
            fed.add(x.byteAt(i));
        }
    }

    private static void tryTo(Runnable call) {
        try {
            call.run();
        } catch (IllegalArgumentException | UnsupportedOperationException | IndexOutOfBoundsException e) {
            // What the call refuses is left out; the machine's own exceptions are of classes below these.
            if (e.getClass() != IllegalArgumentException.class && e.getClass() != UnsupportedOperationException.class
                    && e.getClass() != IndexOutOfBoundsException.class) {
                Check.yes("thrown by the machine: " + e, false);
            }
        }
    }

    private void spoil() {
        int n = fed.size();
        if (n == 0) {
            return;
        }
        if (any(0, 9) == 0) {
            int left = any(Math.max(0, n - 30), n);
            x.cut(left);
            fed.subList(left, n).clear();
            return;
        }
        int place = any(0, 2) == 0 ? any(0, n - 1) : aPlaceInAPart(n);
        int b = any(0, 1) == 0 ? FAVOURITES[any(0, FAVOURITES.length - 1)] : fed.get(place) + any(-1, 1) & 255;
        Check.due("alter", x.alter(place, b), fed.set(place, b));
    }

    private int aPlaceInAPart(int n) {
        if (x.told(5) == 0) {
            return any(0, n - 1);
        }
        return Math.min(n - 1, x.part(any(0, x.told(5) - 1), 1) + any(0, 30));
    }

    private int readAndCompare(String name) {
        Oracle due = new Oracle(fed);
        int answer = x.read();
        Check.due(name + " read", answer, due.answer);
        Check.due(name + " unknown", x.told(6), due.unknown.size());
        for (int k = 0; k < due.unknown.size(); k++) {
            Oracle.Unknown box = due.unknown.get(k);
            Check.due(name + " kind", x.unknown(k, -1), box.kind);
            Check.due(name + " bytes of a box", x.unknown(k, -2), box.data.size());
            for (int i = 0; i < box.data.size(); i++) {
                Check.due(name + " byte of a box", x.unknown(k, i), box.data.get(i));
            }
        }
        if (due.isRead) {
            compareSettings(name, due);
            compareParts(name, due);
        } else {
            Check.dueState(name + " at", () -> x.at(0, 0, 0));
        }
        return answer;
    }

    private void compareSettings(String name, Oracle due) {
        Check.due(name + " colour", x.at(11, 0, 0), due.colour);
        for (int tile = 0; tile < due.tiles; tile++) {
            for (int c = 0; c < due.sizes[2]; c++) {
                for (int what = 0; what <= 10; what++) {
                    Check.due(name + " at " + what, x.at(what, tile, c), due.at(what, tile, c));
                }
            }
        }
        Check.dueIndex(name + " tile", () -> x.at(6, due.tiles, 0));
        Check.dueIndex(name + " component", () -> x.at(6, 0, due.sizes[2]));
    }

    private void compareParts(String name, Oracle due) {
        Check.due(name + " parts", x.told(5), due.parts.size());
        int spoilt = 0;
        int packets = 0;
        for (int k = 0; k < due.parts.size(); k++) {
            Oracle.Part part = due.parts.get(k);
            int[] want = {part.tile, part.place, part.data.size(), part.packets, part.spoilt ? 1 : 0, part.cut ? 1 : 0};
            for (int what = 0; what < want.length; what++) {
                Check.due(name + " part " + k + " " + what, x.part(k, what), want[what]);
            }
            for (int i = 0; i < part.data.size(); i++) {
                Check.due(name + " byte of a part", x.partByte(k, i), part.data.get(i));
            }
            spoilt += part.spoilt ? 1 : 0;
            packets += part.packets;
        }
        Check.due(name + " spoilt", x.told(7), spoilt);
        Check.due(name + " packets", x.told(8), packets);
    }
}
