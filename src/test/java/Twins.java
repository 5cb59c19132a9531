import java.util.ArrayList;
import java.util.List;
import java.util.function.Supplier;
import java.util.function.ToIntFunction;

/** Two objects made alike: what a call changes is what one answers otherwise than the other, which had no such call. */
final class Twins {
    private static final Due DUE = Edges.DUE;
    private static final String TABLE = "plate a holds 9;plate b holds 2;plate c holds 4;chute a b;chute b c wide 2;"
        + "drain c;drain a;falls number+1;luck 60;draw 5;";

    private Twins() {
    }

    /** An object that has something of all there is: a fault, bytes, acts done and undone, boxes, what is seen, lies. */
    static SandPlates rich() {
        SandPlates x = Due.told(TABLE);
        x.later(3);
        x.seen(0, 1, true);
        x.seen(2, 2, false);
        x.later(2);
        x.untell(1);
        x.seen(1, 2, false);
        x.later(1);
        x.image(0);
        x.drop(0, 7);
        x.day();
        x.image(2);
        x.drop(1, 20);
        x.topple(1);
        x.undo();
        x.undo();
        x.fire();
        Due.write(x, "luck ?");
        x.table();
        Due.write(x, "luck 8;draw 9;");
        return x;
    }

    /** Answers a call as due, and leaves all as it was. */
    static void refused(String call, ToIntFunction<SandPlates> ask, int want) {
        refused(call, Twins::rich, ask, want);
    }

    static void refused(String call, Supplier<SandPlates> made, ToIntFunction<SandPlates> ask, int want) {
        SandPlates x = made.get();
        SandPlates twin = made.get();
        DUE.is(call, ask.applyAsInt(x), want);
        same(call, x, twin, true, true);
    }

    /** Asks without doing anything. */
    static void asked(String call, ToIntFunction<SandPlates> ask) {
        SandPlates x = rich();
        ask.applyAsInt(x);
        same(call, x, rich(), true, true);
    }

    /** Asks without doing anything but laying numbers there. */
    static void laid(String call, ToIntFunction<SandPlates> ask) {
        SandPlates x = rich();
        ask.applyAsInt(x);
        same(call, x, rich(), false, true);
    }

    /** All is alike but, perhaps, what lies there, and the tape with the latest fault. */
    static void same(String call, SandPlates x, SandPlates twin, boolean lies, boolean text) {
        List<String> got = trace(x, lies, text);
        List<String> want = trace(twin, lies, text);
        DUE.is(call + ": as many answers behind it", got.size(), want.size());
        for (int i = 0; i < got.size() && i < want.size(); i++) {
            boolean alike = got.get(i).equals(want.get(i));
            DUE.is(alike ? "" : call + ": " + got.get(i) + " behind it, due is " + want.get(i), alike, true);
        }
    }

    /** All that can be known of an object; it is used up by that. */
    private static List<String> trace(SandPlates x, boolean lies, boolean text) {
        List<String> trace = new ArrayList<>();
        for (int what = 0; what <= 14; what++) {
            if (what != 12 && what != 10) {
                trace.add("about(" + what + ") = " + x.about(what));
            }
        }
        for (int i = 0; lies && i < 60 && (i == 0 || x.lies(i - 1) != -2); i++) {
            trace.add("lies(" + i + ") = " + x.lies(i));
        }
        for (int i = 0; i < 5; i++) {
            trace.add("plate(" + i + ", 1) = " + x.plate(i, 1) + ", 2: " + x.plate(i, 2) + ", 3: " + x.plate(i, 3));
        }
        for (int k : new int[] {2, 3, 5, 6, 100000}) {
            trace.add("fits(" + k + ") = " + x.fits(k) + ", sure " + x.sure(0, k) + ", ask " + x.ask(0, k));
        }
        state(x, trace, "now");
        while (x.redo()) {
            state(x, trace, "redone");
        }
        while (x.undo()) {
            state(x, trace, "undone");
        }
        for (int box = 0; box < 3; box++) {
            trace.add("back(" + box + ") = " + x.back(box));
            state(x, trace, "back");
        }
        if (text) {
            trace.add("fault " + x.fault(0) + " at " + x.fault(1) + ", " + x.about(10) + " bytes");
            trace.add("table() = " + x.table() + ", " + x.fault(0) + " at " + x.fault(1) + ", " + x.about(5));
        }
        return trace;
    }

    private static void state(SandPlates x, List<String> trace, String when) {
        StringBuilder all = new StringBuilder(when);
        for (int i = 0; i < 3; i++) {
            all.append(' ').append(x.plate(i, 0));
        }
        trace.add(all + ", drain " + x.about(3) + ", day " + x.about(4) + ", seed " + x.about(5));
    }
}
