/** Promises 9 to 16: days, grains dropped, toppled, settled, swept, undone, and days ahead. */
public final class ActsTest {
    private static final Due DUE = new Due("ActsTest");
    private static final String TWO = "plate a holds 5;plate b;chute a b;drain b;";

    public static void main(String[] args) {
        formulas();
        falls();
        luck();
        fullPlates();
        drops();
        topples();
        settles();
        sweeps();
        undoes();
        wills();
        DUE.end();
    }

    /** How many grains come of a formula on one plate that has 5, on a day of number 0. */
    private static void fall(String formula, int want) {
        SandPlates x = Due.told("plate a holds 5;drain a;falls " + formula + ";");
        x.day();
        DUE.is("falls " + formula, x.about(2) + x.about(3) - 5, want);
    }

    private static void formulas() {
        fall("1+2*3", 7);
        fall("7-2-1", 4);
        fall("40/3/2", 6);
        fall("2*7%4", 2);
        fall("17%10", 7);
        fall("5/0+1", 1);
        fall("5%0+1", 1);
        fall("0-5", 0);
        fall("20", 20);
        fall("21", 20);
        fall("(0-7)/2+10", 7);
        fall("(0-7)%4+10", 7);
        fall("9999*9999*9999", 0);
        fall("0-9999*9999*9999", 20);
        fall("8192*8192*32/(0-1)<0", 1);
        fall("8192*8192*32%(0-1)+3", 3);
        fall("not 0", 1);
        fall("not 5", 0);
        fall("not not 5", 1);
        fall("3 and 4", 1);
        fall("3 and 0", 0);
        fall("0 or 5", 1);
        fall("0 or 0", 0);
        fall("2 or 0 and 0", 1);
        fall("0 and 0 or 2", 1);
        fall("not 1 < 0", 1);
        fall("not 1 and 0", 0);
        fall("1+1 < 3*1", 1);
        fall("3<2", 0);
        fall("3>2", 1);
        fall("3=3", 1);
        fall("3=4", 0);
        fall("2>2", 0);
        fall("2<2", 0);
        fall("(1 or 0)*9", 9);
        fall("grains", 5);
        fall("brim+6", 7);
        fall("number+day", 0);
        fall("0007", 7);
    }

    private static void falls() {
        SandPlates x = Due.told("plate a;plate b;plate c;chute a b;chute b c;drain c;falls number*2+day;");
        // 0, 2, 4 fall, and 0 1 1 stays: 4 go through c, so that a and b topple 5 times each.
        DUE.is("day 0", x.day(), 14);
        DUE.is("drain", x.about(3), 4);
        DUE.is("what there is", x.about(2) + x.about(3), 6);
        DUE.is("the day", x.about(4), 1);
        x.day();
        DUE.is("one more on each", x.about(2) + x.about(3), 15);
        x = Due.told("plate a holds 7;drain a;");
        DUE.is("nothing falls, all settles", x.day(), 7);
        DUE.is("drain", x.about(3), 7);
        // By the grains ahead of the day, each plate by its own.
        x = Due.told("plate a holds 1;plate b holds 3;drain a wide 2;drain b wide 2;falls grains;");
        DUE.is("topplings", x.day(), 4);
        DUE.is("a", x.plate(0, 0), 0);
        DUE.is("b", x.plate(1, 0), 0);
        DUE.is("drain", x.about(3), 8);
    }

    private static void luck() {
        SandPlates x = Due.told("plate a;plate b;drain a wide 2;drain b wide 2;luck 72;");
        DUE.is("seed at first", x.about(5), 0);
        x.day();
        DUE.is("seed", x.about(5), 71);
        DUE.is("71 is less than 72", x.plate(71 % 2, 0), 1);
        DUE.is("nothing on the other one", x.plate(0, 0), 0);
        x = Due.told("plate a;plate b;drain a wide 2;drain b wide 2;luck 71;");
        x.day();
        DUE.is("71 is not less than 71", x.about(2), 0);
        x = Due.told("plate a;plate b;drain a wide 2;drain b wide 2;luck 100;draw 71;");
        x.day();
        DUE.is("seed", x.about(5), 798);
        DUE.is("luck on plate 0", x.plate(0, 0), 1);
        x = Due.told("luck 100;draw 999;");
        DUE.is("a day without plates", x.day(), 0);
        DUE.is("seed", x.about(5), (999 * 137 + 71) % 1000);
        DUE.is("day", x.about(4), 1);
    }

    private static SandPlates full() {
        SandPlates x = Due.told("plate a holds 99;plate b holds 99;chute a b wide 2;drain b;falls 5;");
        for (int i = 0; i < 45; i++) {
            x.drop(0, 20);
        }
        return x;
    }

    private static void fullPlates() {
        SandPlates x = full();
        DUE.is("a full plate", x.plate(0, 0), 999);
        DUE.is("drop", x.drop(0, 1), -1);
        x.day();
        DUE.is("5 fall on b alone", x.about(2) + x.about(3), 999 + 99 + 5);
        x = full();
        x.topple(1);
        DUE.is("more by toppling", x.plate(0, 0), 1001);
        DUE.is("drop on it", x.drop(0, 1), -1);
        x.day();
        DUE.is("it keeps them", x.about(2) + x.about(3), 999 + 99 + 5);
        x = full();
        x.sweep(0);
        for (int i = 0; i < 49; i++) {
            x.drop(0, 20);
        }
        x.drop(0, 16);
        DUE.is("996", x.plate(0, 0), 996);
        DUE.is("drop 4", x.drop(0, 4), -1);
        x.day();
        DUE.is("3 fall on a", x.about(2) + x.about(3), 999 + 99 + 5);
        DUE.is("behind that", x.about(14), 1);
        x = Due.told("plate a holds 99;plate b holds 99;chute a b wide 2;drain b;luck 100;");
        for (int i = 0; i < 45; i++) {
            x.drop(1, 20);
        }
        x.day();
        DUE.is("no luck on a full plate", x.about(2) + x.about(3), 999 + 99);
    }

    private static void drops() {
        SandPlates x = Due.told(TWO);
        DUE.is("drop(0, 1)", x.drop(0, 1), 6);
        DUE.is("drop(1, 20)", x.drop(1, 20), 20);
        DUE.is("drop(0, 0)", x.drop(0, 0), -1);
        DUE.is("drop(0, 21)", x.drop(0, 21), -1);
        DUE.is("drop(0, -1)", x.drop(0, -1), -1);
        DUE.is("drop(2, 1)", x.drop(2, 1), -1);
        DUE.is("drop(-1, 1)", x.drop(-1, 1), -1);
        DUE.is("drop(0, MAX)", x.drop(0, Integer.MAX_VALUE), -1);
        DUE.is("two acts", x.about(6), 2);
        DUE.is("nothing settles", x.about(14), 0);
        DUE.is("level", x.about(2), 26);
    }

    private static void topples() {
        SandPlates x = Due.told(TWO);
        DUE.is("b can't", x.topple(1), -1);
        DUE.is("a topples", x.topple(0), 4);
        DUE.is("a topples", x.topple(0), 3);
        DUE.is("b has", x.plate(1, 0), 2);
        DUE.is("b topples", x.topple(1), 0);
        DUE.is("a has", x.plate(0, 0), 4);
        DUE.is("drain", x.about(3), 1);
        DUE.is("none such", x.topple(2), -1);
        DUE.is("none such", x.topple(-1), -1);
        DUE.is("acts", x.about(6), 3);
    }

    private static void settles() {
        SandPlates x = Due.told(TWO);
        // All but 1 go through b, which topples 4 times and gives 4 back to a: that gives it 9.
        DUE.is("settle", x.settle(), 13);
        DUE.is("a", x.plate(0, 0), 0);
        DUE.is("b", x.plate(1, 0), 1);
        DUE.is("drain", x.about(3), 4);
        DUE.is("settled already", x.settle(), -1);
        DUE.is("one act", x.about(6), 1);
        DUE.is("the day stays", x.about(4), 0);
    }

    private static void sweeps() {
        SandPlates x = Due.told(TWO);
        DUE.is("sweep", x.sweep(0), 5);
        DUE.is("again", x.sweep(0), -1);
        DUE.is("empty", x.sweep(1), -1);
        DUE.is("none such", x.sweep(2), -1);
        DUE.is("none such", x.sweep(-1), -1);
        DUE.is("not into the drain", x.about(3), 0);
        DUE.is("acts", x.about(6), 1);
    }

    private static void undoes() {
        SandPlates x = Due.told("plate a holds 5;drain a;falls 2;luck 50;draw 3;");
        x.day();
        int seed = x.about(5);
        x.drop(0, 9);
        DUE.is("undo", x.undo(), true);
        DUE.is("undo", x.undo(), true);
        DUE.is("undo", x.undo(), false);
        DUE.is("grains", x.plate(0, 0), 5);
        DUE.is("drain", x.about(3), 0);
        DUE.is("day", x.about(4), 0);
        DUE.is("seed", x.about(5), 3);
        DUE.is("to redo", x.about(7), 2);
        DUE.is("redo", x.redo(), true);
        DUE.is("seed", x.about(5), seed);
        DUE.is("day", x.about(4), 1);
        DUE.is("redo", x.redo(), true);
        DUE.is("redo", x.redo(), false);
        DUE.is("grains", x.plate(0, 0), 9);
        x.undo();
        DUE.is("what does nothing", x.drop(0, 0), -1);
        DUE.is("to redo still", x.about(7), 1);
        x.sweep(0);
        DUE.is("sweeping nothing", x.about(7), 1);
        x.drop(0, 2);
        DUE.is("another act", x.redo(), false);
        DUE.is("acts", x.about(6), 2);
        for (int i = 0; i < 41; i++) {
            x.drop(0, 1);
        }
        DUE.is("40 are kept", x.about(6), 40);
        for (int i = 0; i < 40; i++) {
            DUE.is("undo", x.undo(), true);
        }
        DUE.is("the oldest is gone", x.undo(), false);
        DUE.is("grains", x.plate(0, 0), 3);
        DUE.is("to redo", x.about(7), 40);
        for (int i = 0; i < 40; i++) {
            DUE.is("redo", x.redo(), true);
        }
        DUE.is("redo", x.redo(), false);
        DUE.is("grains", x.plate(0, 0), 43);
    }

    private static void wills() {
        String text = "plate a holds 9;plate b;chute a b;drain b;falls number+day%2;luck 60;draw 5;";
        SandPlates x = Due.told(text);
        SandPlates lucky = Due.told(text);
        SandPlates none = Due.told(text.replace("luck 60", "luck 0"));
        for (int n = 0; n <= 30; n++) {
            DUE.is("will(0, " + n + ", 1)", x.will(0, n, 1), lucky.plate(0, 0));
            DUE.is("will(1, " + n + ", 1)", x.will(1, n, 1), lucky.plate(1, 0));
            DUE.is("will(1, " + n + ", 0)", x.will(1, n, 0), none.plate(1, 0));
            lucky.day();
            none.day();
        }
        DUE.is("nothing is done", x.plate(0, 0), 9);
        DUE.is("no day", x.about(4), 0);
        DUE.is("no seed", x.about(5), 5);
        DUE.is("will 31", x.will(0, 31, 0), -1);
        DUE.is("will -1", x.will(0, -1, 0), -1);
        DUE.is("will what", x.will(0, 1, 2), -1);
        DUE.is("will what", x.will(0, 1, -1), -1);
        DUE.is("will plate", x.will(2, 1, 0), -1);
        DUE.is("will plate", x.will(-1, 1, 0), -1);
    }
}
