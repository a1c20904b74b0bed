import java.util.Random;

/**
 * All calls with any arguments in any state: only the exceptions that the document names, never the machine's own;
 * and an object that had all of them shows what its twin shows, which had only those that were not refused.
 */
public final class AnyCallsTest {
    private static final int[] EDGES = {Integer.MIN_VALUE, -3, -2, -1, 0, 1, 2, 3, 4, 5, 8, 10, 11, 12, 23, 24, 39, 40,
        255, 256, 2000, 2001, 20000, 0x72657320, 0x636F6C72, Integer.MAX_VALUE};
    private static final int CALLS = 20;
    /** By the call's number: those that never throw. */
    private static final int WRITE = 6;
    private static final int READ = 12;
    private static final int TOLD = 17;
    private static final int CLEAR = 18;
    private static final int READ_THE_FILE = 19;

    public static void main(String[] args) {
        int refused = 0;
        for (int seed = 0; seed < 600; seed++) {
            refused += oneRun(seed);
        }
        Check.yes("calls were refused often", refused > 50000);
        Check.finish();
    }

    private static int oneRun(int seed) {
        Random random = new Random(seed);
        int width = any(random);
        int height = any(random);
        WaveFiles x = new WaveFiles(width, height);
        WaveFiles twin = new WaveFiles(width, height);
        int refused = 0;
        for (int i = 0; i < 400; i++) {
            int call = random.nextInt(CALLS);
            int[] given = {any(random), any(random), any(random), any(random), random.nextInt(8)};
            String name = "seed " + seed + ", call " + i + " of " + call;
            long answer;
            try {
                answer = make(x, call, given);
            } catch (RuntimeException e) {
                refused++;
                Check.yes(name + " threw " + e, isDue(call, e));
                continue;
            }
            Check.due(name, answer, make(twin, call, given));
        }
        Check.yes("seed " + seed + " shows what its twin shows", Show.all(x).equals(Show.all(twin)));
        return refused;
    }

    private static int any(Random random) {
        int choice = random.nextInt(8);
        if (choice == 0) {
            return random.nextInt();
        }
        return choice < 4 ? EDGES[random.nextInt(EDGES.length)] : random.nextInt(6) - 1;
    }

    private static boolean isDue(int call, RuntimeException e) {
        Class<?> kind = e.getClass();
        boolean isKnown = kind == IndexOutOfBoundsException.class || kind == IllegalStateException.class
                || kind == IllegalArgumentException.class || kind == UnsupportedOperationException.class;
        boolean mayThrow = call != WRITE && call != READ && call != TOLD && call != CLEAR && call != READ_THE_FILE;
        return isKnown && Check.isThrownByTheClass(e) && mayThrow;
    }

    /** Places that are there, a byte that is one, and cutting and clearing now and then, take a run further. */
    private static long make(WaveFiles x, int call, int[] given) {
        int a = given[0];
        int b = given[1];
        int chance = given[4];
        switch (call) {
            case 0:
                return x.set(a, b, given[2], given[3]);
            case 1:
                return x.tilePart(a);
            case 2:
                return x.packet(a);
            case 3:
                return x.byteOf(a, b);
            case 4:
                return x.box(chance < 4, a);
            case 5:
                return x.boxByte(a, b);
            case WRITE:
                return x.write();
            case 7:
                return x.byteAt(a);
            case 8:
                return x.feed(a);
            case 9:
                return x.pass(chance < 2 ? a : 0, b);
            case 10:
                return x.alter(a, b);
            case 11:
                return x.cut(chance < 2 ? a : Integer.MAX_VALUE);
            case READ:
                return x.read();
            case 13:
                return x.at(a, b, given[2]);
            case 14:
                return x.part(a, b);
            case 15:
                return x.partByte(a, b);
            case 16:
                return x.unknown(a, b);
            case TOLD:
                return x.told(a);
            case CLEAR:
                if (chance == 0) {
                    x.clear();
                }
                return 0;
            default:
                return readTheFile(x);
        }
    }

    private static long readTheFile(WaveFiles x) {
        x.cut(0);
        x.pass(0, x.write());
        return x.read();
    }
}
