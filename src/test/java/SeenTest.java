/** Promises 46 to 55: what lies there, what was seen, known in two times, images, and what all is about. */
public final class SeenTest {
    private static final Due DUE = new Due("SeenTest");
    /** With x on b all settles to x % 2 on b, and nothing but what falls there on a. */
    private static final String HALF = "plate a holds 1;plate b holds 50;drain a wide 2;drain b wide 2;";

    public static void main(String[] args) {
        lies();
        tells();
        times();
        asks();
        wrong();
        images();
        abouts();
        DUE.end();
    }

    private static void lies() {
        SandPlates x = Due.told("plate a holds 3;drain a;");
        DUE.is("nothing lies there", x.lies(0), -2);
        x.row();
        DUE.is("lies(2)", x.lies(2), 0);
        DUE.is("lies(3)", x.lies(3), -2);
        DUE.is("lies(-1)", x.lies(-1), -2);
        DUE.is("lies(MAX)", x.lies(Integer.MAX_VALUE), -2);
        x.undo();
        x.drop(0, 1);
        x.image(0);
        x.back(0);
        DUE.is("they stay", x.about(12), 3);
        x.mend();
        DUE.is("others lie there then", x.about(12), 1);
    }

    private static void tells() {
        SandPlates x = Due.told(HALF);
        DUE.is("all fit", x.fits(0), 31);
        DUE.is("the least", x.sure(0, 0), 0);
        DUE.is("the greatest", x.sure(1, 0), 30);
        DUE.is("seen", x.seen(1, 1, true), 0);
        DUE.is("odd ones fit", x.fits(0), 15);
        DUE.is("the least", x.sure(0, 0), 1);
        DUE.is("the greatest", x.sure(1, 0), 29);
        DUE.is("seen", x.seen(0, 1, true), 1);
        DUE.is("one on a is so", x.fits(0), 15);
        DUE.is("seen", x.seen(0, 2, false), 2);
        DUE.is("not two on a is so", x.fits(0), 15);
        DUE.is("untell", x.untell(0), true);
        DUE.is("again", x.untell(0), false);
        DUE.is("all fit", x.fits(0), 31);
        DUE.is("seen", x.seen(1, 1, false), 3);
        DUE.is("even ones fit", x.fits(0), 16);
        DUE.is("seen", x.seen(1, 0, false), 4);
        DUE.is("none fits", x.fits(0), 0);
        DUE.is("sure", x.sure(0, 0), -1);
        DUE.is("sure", x.sure(1, 0), -1);
        DUE.is("ask", x.ask(0, 0), -1);
        DUE.is("ask", x.ask(1, 0), -1);
        DUE.is("so many are seen", x.about(8), 5);
        // Of the table as it was told: what is done now changes nothing.
        x.untell(4);
        x.drop(0, 1);
        x.day();
        DUE.is("even ones fit", x.fits(0), 16);
    }

    private static void times() {
        SandPlates x = Due.told(HALF);
        DUE.is("later(0)", x.later(0), 0);
        DUE.is("later(5)", x.later(5), 5);
        x.seen(1, 1, true);
        DUE.is("later(10)", x.later(10), 15);
        x.untell(0);
        x.seen(1, 1, false);
        DUE.is("known at -1", x.fits(-1), 31);
        DUE.is("known at 4", x.fits(4), 31);
        DUE.is("known at 5", x.fits(5), 15);
        DUE.is("known at 14", x.fits(14), 15);
        DUE.is("known at 15", x.fits(15), 16);
        DUE.is("known at MAX", x.fits(Integer.MAX_VALUE), 16);
        DUE.is("known at MIN", x.fits(Integer.MIN_VALUE), 31);
        DUE.is("sure at 14", x.sure(0, 14), 1);
        DUE.is("sure at 15", x.sure(0, 15), 0);
        DUE.is("sure at 14", x.sure(1, 14), 29);
        DUE.is("later(-1)", x.later(-1), -1);
        DUE.is("later(1001)", x.later(1001), -1);
        DUE.is("later(MAX)", x.later(Integer.MAX_VALUE), -1);
        DUE.is("the time", x.about(9), 15);
        for (int i = 0; i < 99; i++) {
            x.later(1000);
        }
        DUE.is("later(986)", x.later(986), -1);
        DUE.is("later(985)", x.later(985), 100000);
        DUE.is("later(1)", x.later(1), -1);
        DUE.is("later(0)", x.later(0), 100000);
    }

    private static void asks() {
        SandPlates x = Due.told(HALF);
        DUE.is("b tells the most", x.ask(0, 0), 1);
        DUE.is("16 are left at the most", x.ask(1, 0), 16);
        DUE.is("ask(2)", x.ask(2, 0), -1);
        DUE.is("ask(-1)", x.ask(-1, 0), -1);
        DUE.is("sure(2)", x.sure(2, 0), -1);
        DUE.is("sure(-1)", x.sure(-1, 0), -1);
        x.later(3);
        x.seen(1, 1, true);
        DUE.is("of like ones the first", x.ask(0, 3), 0);
        DUE.is("15 are left", x.ask(1, 3), 15);
        DUE.is("as known before", x.ask(0, 2), 1);
        // One plate with the drain alone, each wide 1: nothing stays on it.
        x = Due.told("plate a;drain a;");
        DUE.is("ask", x.ask(0, 0), 0);
        DUE.is("all are left", x.ask(1, 0), 31);
    }

    private static void wrong() {
        SandPlates x = Due.told(HALF);
        DUE.is("plate 2", x.seen(2, 0, true), -1);
        DUE.is("plate -1", x.seen(-1, 0, true), -1);
        DUE.is("many -1", x.seen(0, -1, true), -1);
        DUE.is("many 100", x.seen(0, 100, true), -1);
        DUE.is("untell none", x.untell(0), false);
        DUE.is("untell -1", x.untell(-1), false);
        DUE.is("nothing is seen", x.about(8), 0);
        for (int i = 0; i < 30; i++) {
            DUE.is("seen", x.seen(1, 99, false), i);
        }
        x.untell(7);
        DUE.is("30 at most", x.seen(0, 0, true), -1);
        DUE.is("30 at most", x.about(8), 30);
        DUE.is("untell 30", x.untell(30), false);
        DUE.is("untell 29", x.untell(29), true);
        x = new SandPlates();
        DUE.is("no plates", x.fits(0), 0);
        DUE.is("no plates", x.sure(0, 0), -1);
        DUE.is("no plates", x.ask(0, 0), -1);
    }

    private static void images() {
        SandPlates x = Due.told("plate a holds 4;plate b;drain a;chute a b;falls 1;luck 40;draw 8;");
        DUE.is("image(3)", x.image(3), -1);
        DUE.is("image(-1)", x.image(-1), -1);
        DUE.is("back(3)", x.back(3), -1);
        DUE.is("back(-1)", x.back(-1), -1);
        DUE.is("back(0)", x.back(0), -1);
        DUE.is("image(0)", x.image(0), 4);
        x.day();
        x.day();
        int level = x.about(2);
        int drain = x.about(3);
        int seed = x.about(5);
        DUE.is("image(2)", x.image(2), level);
        x.drop(0, 5);
        x.undo();
        DUE.is("back(0)", x.back(0), 4);
        DUE.is("drain", x.about(3), 0);
        DUE.is("day", x.about(4), 0);
        DUE.is("seed", x.about(5), 8);
        DUE.is("no acts", x.undo(), false);
        DUE.is("no acts", x.redo(), false);
        DUE.is("grains", x.plate(0, 0), 4);
        DUE.is("back(2)", x.back(2), level);
        DUE.is("drain", x.about(3), drain);
        DUE.is("day", x.about(4), 2);
        DUE.is("seed", x.about(5), seed);
        x.back(0);
        x.day();
        DUE.is("gone on from", x.undo(), true);
        DUE.is("grains", x.plate(0, 0), 4);
        x.sweep(0);
        DUE.is("another image", x.image(0), 0);
        x.drop(0, 1);
        DUE.is("back to it", x.back(0), 0);
        DUE.is("behind NONE nothing is done", x.back(1), -1);
        x.drop(0, 1);
        DUE.is("behind NONE nothing is done", x.back(1), -1);
        DUE.is("acts stay", x.about(6), 1);
    }

    private static void abouts() {
        SandPlates x = Due.told("plate a holds 4;plate b;drain a wide 2;chute a b;falls grains+(1);luck 40;draw 8;");
        int[] first = {2, 2, 4, 0, 0, 8, 0, 0, 0, 0, 0, 3, 0, 40, 0};
        for (int i = 0; i < first.length; i++) {
            DUE.is("about(" + i + ")", x.about(i), first[i]);
        }
        x.settle();
        x.drop(1, 1);
        x.drop(1, 1);
        x.undo();
        x.seen(0, 0, true);
        x.later(6);
        x.feed(0, 0, 0, 0, 0);
        x.fire();
        // a topples once: 1 left; b has 1, which is its brim: it goes back; so b has none, a 2. One more on b then.
        int[] then = {2, 2, 3, 2, 0, 8, 2, 1, 1, 6, 20, 3, 2, 40, 0};
        for (int i = 0; i < then.length; i++) {
            DUE.is("about(" + i + ") then", x.about(i), then[i]);
        }
        DUE.is("about(15)", x.about(15), -1);
        DUE.is("about(-1)", x.about(-1), -1);
    }
}
