/** What the tests share: answers that are due, and tables told as text. */
final class Due {
    private int wrong;
    private int asked;
    private final String name;
    private String part = "";

    Due(String name) {
        this.name = name;
    }

    /** What the answers from now on are asked for. */
    void about(String sentence) {
        part = sentence.isEmpty() ? "" : sentence + ": ";
    }

    int asked() {
        return asked;
    }

    void is(String call, long got, long want) {
        asked++;
        if (got != want) {
            wrong++;
            if (wrong <= 40) {
                System.out.println(name + ": " + part + call + " answered " + got + ", due is " + want);
            }
        }
    }

    void is(String call, boolean got, boolean want) {
        is(call, got ? 1 : 0, want ? 1 : 0);
    }

    void lie(String call, SandPlates x, int... want) {
        is(call + " about(12)", x.about(12), want.length);
        for (int i = 0; i < want.length; i++) {
            is(call + " lies(" + i + ")", x.lies(i), want[i]);
        }
        is(call + " lies behind", x.lies(want.length), -2);
    }

    /** Ends the test: exit code 1 if an answer was wrong. */
    void end() {
        System.out.println(name + ": " + asked + " answers, " + wrong + " wrong");
        if (wrong != 0) {
            System.exit(1);
        }
    }

    /** Puts a text on the tape, whatever lay on it. */
    static void write(SandPlates x, String text) {
        x.end(0);
        for (int i = 0; i < text.length(); i += 20) {
            x.feed(four(text, i), four(text, i + 4), four(text, i + 8), four(text, i + 12), four(text, i + 16));
        }
        x.end(text.length());
    }

    private static int four(String text, int from) {
        int bytes = 0;
        for (int i = from; i < from + 4; i++) {
            bytes = bytes << 8 | (i < text.length() ? text.charAt(i) & 255 : 32);
        }
        return bytes;
    }

    /** A new object with a table that must be without fault. */
    static SandPlates told(String text) {
        SandPlates x = new SandPlates();
        write(x, text);
        if (x.table() < 0) {
            throw new IllegalStateException("fault " + x.fault(0) + " at " + x.fault(1) + " in: " + text);
        }
        return x;
    }
}
