/** Promises 10 to 13: feed, pass, alter, cut. */
public final class FeedingTest {
    public static void main(String[] args) {
        feed();
        pass();
        alter();
        cut();
        room();
        Check.finish();
    }

    private static void feed() {
        WaveFiles x = new WaveFiles(1, 1);
        Check.dueArgument("256", () -> x.feed(256));
        Check.dueArgument("-1", () -> x.feed(-1));
        Check.due("0", x.feed(0), 1);
        Check.due("255", x.feed(255), 2);
        Check.due("told", x.told(4), 2);
        Check.due("kept", x.alter(1, 7), 255);
    }

    private static void pass() {
        WaveFiles x = new WaveFiles(1, 1);
        Check.dueIndex("no file", () -> x.pass(0, 0));
        int n = x.write();
        Check.dueIndex("from -1", () -> x.pass(-1, 1));
        Check.dueIndex("from the end", () -> x.pass(n, 0));
        Check.dueIndex("index before argument", () -> x.pass(n, -1));
        Check.dueArgument("n is -1", () -> x.pass(0, -1));
        Check.due("none", x.pass(5, 0), 0);
        Check.due("three", x.pass(2, 3), 3);
        Check.due("they are fed", x.told(4), 3);
        Check.due("the first", x.alter(1, 9), 12);
        Check.due("the last", x.alter(2, 9), 'j');
        Check.due("as many as there are", x.pass(n - 2, 5), 2);
        Check.due("as many as there are", x.pass(n - 1, Integer.MAX_VALUE), 1);
        Check.due("they are fed", x.told(4), 6);
        Check.due("the last again", x.alter(5, 0), 217);
        x.box(false, Build.kind("res "));
        Check.due("what is written later is not passed before", x.pass(0, 99999), n);
    }

    private static void alter() {
        WaveFiles x = new WaveFiles(1, 1);
        Check.dueIndex("nothing fed", () -> x.alter(0, 0));
        x.feed(5);
        Check.dueIndex("-1", () -> x.alter(-1, 0));
        Check.dueIndex("1, and no byte", () -> x.alter(1, 256));
        Check.dueArgument("256", () -> x.alter(0, 256));
        Check.dueArgument("-1", () -> x.alter(0, -1));
        Check.due("unchanged", x.alter(0, 255), 5);
        Check.due("changed", x.alter(0, 0), 255);
    }

    private static void cut() {
        WaveFiles x = new WaveFiles(1, 1);
        Check.dueArgument("-1", () -> x.cut(-1));
        Check.due("nothing", x.cut(3), 0);
        x.feed(1);
        x.feed(2);
        x.feed(3);
        Check.due("more than there are", x.cut(Integer.MAX_VALUE), 3);
        Check.due("as many", x.cut(3), 3);
        Check.due("fewer", x.cut(1), 1);
        Check.dueIndex("gone", () -> x.alter(1, 0));
        Check.due("goes on there", x.feed(9), 2);
        Check.due("the new one", x.alter(1, 0), 9);
        Check.due("all", x.cut(0), 0);
    }

    private static void room() {
        WaveFiles x = new WaveFiles(1, 1);
        int n = x.write();
        int fed = 0;
        while (fed + n <= 20000) {
            fed += x.pass(0, n);
        }
        int left = 20000 - fed;
        Check.dueNoRoom("one too many", () -> x.pass(0, left + 1));
        Check.dueArgument("argument before room", () -> x.pass(0, -1));
        Check.due("nothing changed", x.told(4), fed);
        Check.due("to the brim", x.pass(0, left), left);
        Check.due("none goes in", x.pass(0, 0), 0);
        Check.dueNoRoom("feed", () -> x.feed(0));
        Check.dueArgument("argument before room", () -> x.feed(256));
        Check.due("told", x.told(4), 20000);
        x.cut(19999);
        Check.due("the last", x.feed(3), 20000);
    }
}
