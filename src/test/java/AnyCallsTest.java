import java.util.Random;

/** All calls with any arguments in any state: only the exceptions that the document names, never the machine's own. */
public final class AnyCallsTest {
    private static final int[] EDGES = {Integer.MIN_VALUE, -3, -2, -1, 0, 1, 2, 3, 4, 5, 8, 10, 11, 12, 23, 24, 39, 40,
        255, 256, 2000, 2001, 20000, 0x72657320, 0x636F6C72, Integer.MAX_VALUE};
    private static final int CALLS = 19;

    public static void main(String[] args) {
        for (int seed = 0; seed < 1500; seed++) {
            Random random = new Random(seed);
            WaveFiles x = new WaveFiles(any(random), any(random));
            for (int i = 0; i < 512; i++) {
                int call = random.nextInt(CALLS);
                Check.yes("seed " + seed + " call " + call, isDue(x, call, random));
            }
        }
        Check.finish();
    }

    private static int any(Random random) {
        int choice = random.nextInt(8);
        if (choice == 0) {
            return random.nextInt();
        }
        return choice < 4 ? EDGES[random.nextInt(EDGES.length)] : random.nextInt(6) - 1;
    }

    private static boolean isDue(WaveFiles x, int call, Random random) {
        int[] told = new int[9];
        for (int what = 0; what < 9; what++) {
            told[what] = x.told(what);
        }
        try {
            make(x, call, random);
            return true;
        } catch (RuntimeException e) {
            for (int what = 0; what < 9; what++) {
                if (told[what] != x.told(what)) {
                    return false;
                }
            }
            Class<?> kind = e.getClass();
            boolean isKnown = kind == IndexOutOfBoundsException.class || kind == IllegalStateException.class
                    || kind == IllegalArgumentException.class || kind == UnsupportedOperationException.class;
            if (!isKnown) {
                System.out.println(e);
            }
            return isKnown && Check.isThrownByTheClass(e) && call != 6 && call != 12 && call != 17 && call != 18;
        }
    }

    private static void make(WaveFiles x, int call, Random random) {
        int a = any(random);
        int b = any(random);
        int c = any(random);
        switch (call) {
            case 0 -> x.set(a, b, c, any(random));
            case 1 -> x.tilePart(a);
            case 2 -> x.packet(a);
            case 3 -> x.byteOf(a, b);
            case 4 -> x.box(random.nextBoolean(), a);
            case 5 -> x.boxByte(a, b);
            case 6 -> x.write();
            case 7 -> x.byteAt(a);
            case 8 -> x.feed(a);
            case 9 -> x.pass(random.nextInt(4) == 0 ? a : 0, b);
            case 10 -> x.alter(a, b);
            case 11 -> x.cut(random.nextInt(3) == 0 ? a : Integer.MAX_VALUE);
            case 12 -> x.read();
            case 13 -> x.at(a, b, c);
            case 14 -> x.part(a, b);
            case 15 -> x.partByte(a, b);
            case 16 -> x.unknown(a, b);
            case 17 -> x.told(a);
            default -> {
                if (random.nextInt(8) == 0) {
                    x.clear();
                }
            }
        }
    }
}
