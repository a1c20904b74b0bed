/** Tells all that calls can show of an object, so that two can be compared; what it asks alters the object. */
final class Show {
    private static final int[] LEAST = {1, 1, 1, 1, 0, 1, 0, 2, 0, 0, 0};

    private final WaveFiles x;
    private final StringBuilder text = new StringBuilder();

    private Show(WaveFiles x) {
        this.x = x;
    }

    static String all(WaveFiles x) {
        Show show = new Show(x);
        show.counts();
        show.whatWasRead();
        show.unknownBoxes();
        show.whatWasWritten("file");
        show.whatIsMade();
        show.settings();
        show.whatWasFed();
        return show.text.toString();
    }

    /** A refused call shows as the exception's name. */
    private void ask(String call, Check.Call made) {
        String answer;
        try {
            answer = String.valueOf(made.run());
        } catch (RuntimeException e) {
            answer = e.getClass().getSimpleName();
        }
        text.append(call).append(": ").append(answer).append('\n');
    }

    private void counts() {
        for (int w = -1; w <= 9; w++) {
            int what = w;
            ask("told(" + what + ")", () -> x.told(what));
        }
    }

    private void whatWasRead() {
        for (int w = 0; w <= 11; w++) {
            for (int t = 0; t < 24; t++) {
                for (int c = 0; c < 4; c++) {
                    int what = w;
                    int tile = t;
                    int component = c;
                    ask("at(" + what + ", " + tile + ", " + component + ")", () -> x.at(what, tile, component));
                }
            }
        }
        for (int p = 0; p <= x.told(5); p++) {
            int k = p;
            for (int w = 0; w <= 5; w++) {
                int what = w;
                ask("part(" + k + ", " + what + ")", () -> x.part(k, what));
            }
            int bytes = k < x.told(5) ? x.part(k, 2) : 0;
            for (int b = 0; b <= bytes; b++) {
                int i = b;
                ask("partByte(" + k + ", " + i + ")", () -> x.partByte(k, i));
            }
        }
    }

    private void unknownBoxes() {
        for (int u = 0; u <= x.told(6); u++) {
            int k = u;
            int bytes = k < x.told(6) ? x.unknown(k, -2) : 0;
            for (int w = -2; w <= bytes; w++) {
                int what = w;
                ask("unknown(" + k + ", " + what + ")", () -> x.unknown(k, what));
            }
        }
    }

    private void whatWasWritten(String name) {
        for (int b = 0; b <= x.told(3); b++) {
            int i = b;
            ask(name + " byteAt(" + i + ")", () -> x.byteAt(i));
        }
    }

    /** The file shows the parts and boxes; one more of each shows how many packets and bytes they have. */
    private void whatIsMade() {
        ask("write()", () -> x.write());
        whatWasWritten("new file");
        for (int p = 0; p <= x.told(1); p++) {
            int part = p;
            ask("byteOf(" + part + ", 1)", () -> x.byteOf(part, 1));
            ask("packet(" + part + ")", () -> x.packet(part));
        }
        for (int b = 0; b <= x.told(2); b++) {
            int box = b;
            ask("boxByte(" + box + ", 1)", () -> x.boxByte(box, 1));
        }
        ask("tilePart(0)", () -> x.told(1) == 0 ? 0 : x.tilePart(0));
        ask("box", () -> x.box(false, 0x20202020));
    }

    /** Those for all come first and are changed: what is told behind that is a segment's own, or that for all. */
    private void settings() {
        for (int w = 0; w <= 10; w++) {
            int what = w;
            ask("set(" + what + ") for all", () -> x.set(what, -1, -1, LEAST[what] + 1));
        }
        ask("four components", () -> x.set(2, -1, -1, 4));
        for (int c = 0; c < 4; c++) {
            int component = c;
            ask("depth of " + component, () -> x.set(3, -1, component, 9));
        }
        for (int t = 23; t >= -1; t--) {
            for (int c = 3; c >= -1; c--) {
                for (int w = 4; w <= 10; w++) {
                    int what = w;
                    int tile = t;
                    int component = c;
                    ask("set(" + what + ", " + tile + ", " + component + ")",
                            () -> x.set(what, tile, component, LEAST[what]));
                }
            }
        }
    }

    private void whatWasFed() {
        int fed = x.told(4);
        for (int b = 0; b <= fed; b++) {
            int i = b;
            ask("alter(" + i + ")", () -> x.alter(i, 0));
        }
    }
}
