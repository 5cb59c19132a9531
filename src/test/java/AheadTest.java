/** Promises 17 to 25 and 44: what would topple by what is now. */
public final class AheadTest {
    private static final Due DUE = new Due("AheadTest");
    private static final String THREE = "plate a holds 3;plate b holds 1;plate c holds 1;"
        + "chute a b;chute b c;drain c;drain a;";

    public static void main(String[] args) {
        now();
        row();
        rounds();
        slides();
        law();
        noPlates();
        DUE.end();
    }

    private static void now() {
        SandPlates x = Due.told(THREE);
        DUE.is("over", x.over(), 1);
        x.drop(2, 1);
        DUE.is("over", x.over(), 5);
        x.undo();
        // 3 1 1: a topples, 1 2 1: b, 2 0 2: a and c, 0 2 0: b, 1 0 1.
        DUE.is("rest(0)", x.rest(0), 1);
        DUE.is("rest(1)", x.rest(1), 0);
        DUE.is("rest(2)", x.rest(2), 1);
        DUE.is("rest(3)", x.rest(3), -1);
        DUE.is("rest(-1)", x.rest(-1), -1);
        DUE.is("often(0)", x.often(0), 2);
        DUE.is("often(1)", x.often(1), 2);
        DUE.is("often(2)", x.often(2), 1);
        DUE.is("often(3)", x.often(3), -1);
        DUE.is("often(-1)", x.often(-1), -1);
        DUE.is("spilt", x.spilt(), 3);
        DUE.is("nothing is done", x.plate(0, 0), 3);
        DUE.is("no act", x.about(6), 0);
        DUE.is("no drain", x.about(3), 0);
    }

    private static void row() {
        SandPlates x = Due.told(THREE);
        DUE.is("row", x.row(), 5);
        DUE.lie("row", x, 0, 1, 0, 2, 1);
        DUE.is("lies(-1)", x.lies(-1), -2);
        x = Due.told("plate a holds 60;drain a;");
        DUE.is("60", x.row(), 60);
        DUE.is("60 lie", x.about(12), 60);
        x.drop(0, 20);
        DUE.is("80", x.row(), 80);
        DUE.is("the first 60 lie", x.about(12), 60);
        DUE.is("the last", x.lies(59), 0);
        DUE.is("behind", x.lies(60), -2);
        x.day();
        DUE.is("lies stay", x.about(12), 60);
        DUE.is("row of a settled heap", x.row(), 0);
        DUE.lie("settled", x);
    }

    private static void rounds() {
        SandPlates x = Due.told(THREE);
        // a; b; a and c at once; b.
        DUE.is("rounds", x.rounds(), 4);
        x.drop(2, 1);
        // 3 1 2: a and c at once, 1 3 0: b, 2 1 1: a, 0 2 1: b, 1 0 2: c, 1 1 0.
        DUE.is("rounds", x.rounds(), 5);
        DUE.is("topplings", x.row(), 6);
        x.settle();
        DUE.is("settled", x.rounds(), 0);
    }

    private static void slides() {
        SandPlates x = Due.told(THREE);
        // In rest 1 0 1: one more on a: a topples, 0 1 1, one into the drain.
        DUE.is("slide(0, 0)", x.slide(0, 0), 1);
        DUE.is("slide(0, 1)", x.slide(0, 1), 1);
        DUE.is("slide(0, 2)", x.slide(0, 2), 1);
        DUE.is("slide(1, 0)", x.slide(1, 0), 0);
        DUE.is("slide(1, 1)", x.slide(1, 1), 0);
        DUE.is("slide(2, 1)", x.slide(2, 1), 4);
        DUE.is("slide(0, 3)", x.slide(0, 3), -1);
        DUE.is("slide(0, -1)", x.slide(0, -1), -1);
        DUE.is("slide(3, 0)", x.slide(3, 0), -1);
        DUE.is("slide(-1, 0)", x.slide(-1, 0), -1);
        DUE.is("the first of like ones", x.steepest(), 0);
        DUE.is("quiet", x.quiet(), 2);
        x.settle();
        x.drop(1, 1);
        // 1 1 1: from the middle b, then a and c, then b again.
        DUE.is("slide(1, 0)", x.slide(1, 0), 4);
        DUE.is("slide(1, 1)", x.slide(1, 1), 7);
        DUE.is("slide(1, 2)", x.slide(1, 2), 2);
        DUE.is("slide(0, 0)", x.slide(0, 0), 3);
        DUE.is("steepest", x.steepest(), 1);
        DUE.is("quiet", x.quiet(), 0);
        x = Due.told(THREE.replace("holds 3", "holds 0").replace("holds 1", "holds 0"));
        DUE.is("steepest of nothing", x.steepest(), 0);
        DUE.is("all quiet", x.quiet(), 7);
    }

    private static void law() {
        SandPlates x = Due.told("plate a holds 4;drain a;");
        DUE.is("law(0)", x.law(0), 4);
        DUE.is("law(1)", x.law(1), 5);
        DUE.is("law(20)", x.law(20), 24);
        DUE.is("law(21)", x.law(21), -1);
        DUE.is("law(-1)", x.law(-1), -1);
        DUE.is("nothing is done", x.plate(0, 0), 4);
        x = Due.told(THREE);
        DUE.is("law(0) is what is spilt", x.law(0), x.spilt());
        // 4 2 2 settles to 1 1 1.
        DUE.is("law(1)", x.law(1), 5);
        x = Due.told("plate a holds 99;drain a wide 2;");
        for (int i = 0; i < 45; i++) {
            x.drop(0, 20);
        }
        DUE.is("not kept to 999", x.law(20), 1018);
    }

    private static void noPlates() {
        SandPlates x = new SandPlates();
        DUE.is("over", x.over(), 0);
        DUE.is("spilt", x.spilt(), 0);
        DUE.is("steepest", x.steepest(), -1);
        DUE.is("quiet", x.quiet(), 0);
        DUE.is("rounds", x.rounds(), 0);
    }
}
