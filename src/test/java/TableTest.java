/** Promises 1 to 8: the tape, the table, its faults, and what it tells. */
public final class TableTest {
    private static final Due DUE = new Due("TableTest");

    public static void main(String[] args) {
        newObject();
        tape();
        good();
        allStays();
        tapeBehindTable();
        tokens();
        places();
        toldAlready();
        numbers();
        cut();
        names();
        ways();
        units();
        depth();
        formulaForms();
        asTold();
        DUE.end();
    }

    private static void newObject() {
        SandPlates x = new SandPlates();
        for (int what = 0; what <= 13; what++) {
            DUE.is("new about(" + what + ")", x.about(what), 0);
        }
        DUE.is("new about(14)", x.about(14), 1);
        DUE.is("new about(15)", x.about(15), -1);
        DUE.is("new about(-1)", x.about(-1), -1);
        DUE.is("new fault(0)", x.fault(0), 0);
        DUE.is("new fault(1)", x.fault(1), -1);
        DUE.is("new fault(2)", x.fault(2), -1);
        DUE.is("new fault(-1)", x.fault(-1), -1);
        DUE.is("new undo", x.undo(), false);
        DUE.is("new redo", x.redo(), false);
        DUE.is("NONE", SandPlates.NONE, -1);
        DUE.is("new table()", x.table(), 0);
    }

    private static void tape() {
        SandPlates x = new SandPlates();
        for (int i = 1; i <= 80; i++) {
            DUE.is("feed", x.feed(0, 0, 0, 0, 0), 20 * i);
        }
        DUE.is("feed too much", x.feed(1, 2, 3, 4, 5), -1);
        DUE.is("tape", x.about(10), 1600);
        DUE.is("end(1601)", x.end(1601), -1);
        DUE.is("end(-1)", x.end(-1), -1);
        DUE.is("end(1600)", x.end(1600), 1600);
        DUE.is("end(1581)", x.end(1581), 1581);
        DUE.is("feed 20 behind 1581", x.feed(1, 2, 3, 4, 5), -1);
        DUE.is("tape", x.about(10), 1581);
        DUE.is("end(1580)", x.end(1580), 1580);
        DUE.is("feed 20 behind 1580", x.feed(1, 2, 3, 4, 5), 1600);
        DUE.is("end(0)", x.end(0), 0);
        DUE.is("end(1)", x.end(1), -1);
        // The highest byte comes first: "luck", " 100", ";".
        DUE.is("feed", x.feed(0x6c75636b, 0x20313030, 0x3b202020, 0x20202020, 0x0a0a0a0a), 20);
        DUE.is("table", x.table(), 0);
        DUE.is("luck", x.about(13), 100);
        DUE.is("tape is empty", x.about(10), 0);
        x.feed(-1, -1, -1, -1, -1);
        DUE.is("bytes of 255", x.table(), -1);
        DUE.is("fault(0)", x.fault(0), 1);
        DUE.is("fault(1)", x.fault(1), 0);
    }

    private static void good() {
        SandPlates x = Due.told("plate a;plate b holds7;chute b a wide2;drain b;falls1;luck5;draw999;");
        DUE.is("plates", x.about(0), 2);
        DUE.is("chutes", x.about(1), 2);
        DUE.is("units", x.about(11), 1);
        DUE.is("luck", x.about(13), 5);
        DUE.is("seed", x.about(5), 999);
        DUE.is("fault(0)", x.fault(0), 0);
        DUE.is("fault(1)", x.fault(1), -1);
        Due.write(x, "plate abcdefgh holds\n99;drain abcdefgh wide2 ;");
        DUE.is("eight letters", x.table(), 1);
        DUE.is("grains", x.plate(0, 0), 99);
        DUE.is("brim", x.plate(0, 1), 2);
        Due.write(x, "");
        DUE.is("an empty text", x.table(), 0);
        Due.write(x, " \n \n");
        DUE.is("blanks", x.table(), 0);
    }

    private static void allStays() {
        SandPlates x = Due.told("plate a holds 3;drain a;");
        x.drop(0, 2);
        x.seen(0, 0, true);
        x.later(7);
        x.image(1);
        x.row();
        Due.write(x, "plate b;drain c;");
        DUE.is("a fault", x.table(), -1);
        DUE.is("fault(0)", x.fault(0), 5);
        DUE.is("fault(1)", x.fault(1), 14);
        DUE.is("tape is empty behind a fault", x.about(10), 0);
        DUE.is("time stays behind a fault", x.about(9), 7);
        DUE.is("plates stay", x.about(0), 1);
        DUE.is("grains stay", x.plate(0, 0), 5);
        DUE.is("acts stay", x.about(6), 1);
        DUE.is("seen stays", x.about(8), 1);
        DUE.is("lies stay", x.about(12), 5);
        DUE.is("box stays", x.back(1), 5);
        Due.write(x, "plate b;drain b;");
        x.drop(0, 1);
        x.day();
        DUE.is("drain", x.about(3), 6);
        DUE.is("no fault", x.table(), 1);
        DUE.is("fault(0)", x.fault(0), 0);
        DUE.is("fault(1)", x.fault(1), -1);
        DUE.is("tape is empty", x.about(10), 0);
        DUE.is("acts are gone", x.about(6), 0);
        DUE.is("undo", x.undo(), false);
        DUE.is("seen is gone", x.about(8), 0);
        DUE.is("nothing lies there", x.about(12), 0);
        DUE.is("box is empty", x.back(1), -1);
        DUE.is("one with empty box", x.one(1), -1);
        DUE.is("time stays", x.about(9), 7);
        DUE.is("day", x.about(4), 0);
        DUE.is("drain", x.about(3), 0);
        DUE.is("seed", x.about(5), 0);
    }

    /** The tape is empty behind each table(), whether it was good or not. */
    private static void tapeBehindTable() {
        SandPlates x = new SandPlates();
        DUE.is("feed", x.feed(0, 0, 0, 0, 0), 20);
        DUE.is("no token", x.table(), -1);
        DUE.is("end(1) behind a fault", x.end(1), -1);
        DUE.is("end(0) behind a fault", x.end(0), 0);
        DUE.is("feed behind a fault", x.feed(0x6c75636b, 0x20373b20, 0x20202020, 0x20202020, 0x20202020), 20);
        DUE.is("what was fed behind a fault is the whole text", x.table(), 0);
        DUE.is("luck", x.about(13), 7);
        // Twice the same text would have a second luck, had the first one stayed on the tape.
        DUE.is("feed behind a good one", x.feed(0x6c75636b, 0x20383b20, 0x20202020, 0x20202020, 0x20202020), 20);
        DUE.is("what was fed behind a good one is the whole text", x.table(), 0);
        DUE.is("luck", x.about(13), 8);
        for (int i = 1; i <= 80; i++) {
            x.feed(-1, -1, -1, -1, -1);
        }
        DUE.is("a full tape", x.feed(0, 0, 0, 0, 0), -1);
        DUE.is("a fault in a full tape", x.table(), -1);
        DUE.is("luck stays", x.about(13), 8);
        DUE.is("feed behind a full tape", x.feed(0, 0, 0, 0, 0), 20);
        x.table();
        DUE.is("an empty tape tells the empty table behind a fault", x.table(), 0);
        DUE.is("fault(0)", x.fault(0), 0);
        DUE.is("no luck", x.about(13), 0);
    }

    private static void bad(String text, int fault, int place) {
        SandPlates x = new SandPlates();
        Due.write(x, text);
        DUE.is("table of " + text, x.table(), -1);
        DUE.is("fault(0) of " + text, x.fault(0), fault);
        DUE.is("fault(1) of " + text, x.fault(1), place);
        DUE.is("plates of " + text, x.about(0), 0);
        DUE.is("tape behind " + text, x.about(10), 0);
    }

    private static void tokens() {
        bad("Plate a;", 1, 0);
        bad("platea;", 2, 0);
        bad("plate a\t;", 1, 7);
        bad("plate abcdefghi;", 1, 6);
        bad("luck 00005;", 1, 5);
        bad("luck 5a;", 1, 5);
        bad("falls 1 & 2;", 1, 8);
        bad("falls 1 <= 2;", 2, 9);
        bad("luck 5A;", 1, 6);
        bad("plate a,", 1, 7);
        bad("plate a; ?", 1, 9);
    }

    private static void places() {
        bad("plate", 2, 5);
        bad("plate a", 2, 7);
        bad("plate a  ", 2, 9);
        bad("plate a holds", 2, 13);
        bad("plate a holds ;", 2, 14);
        bad("plate 5;", 2, 6);
        bad("plate day;", 2, 6);
        bad("plate or;", 2, 6);
        bad("a;", 2, 0);
        bad("holds;", 2, 0);
        bad(";", 2, 0);
        bad("plate a;;", 2, 8);
        bad("plate a wide 1;", 2, 8);
        bad("plate a;drain a holds 1;", 2, 16);
        bad("plate a;chute a;", 2, 15);
        bad("luck;", 2, 4);
        bad("luck a;", 2, 5);
        bad("draw 1 2;", 2, 7);
        bad("plate a;plate b;plate c;plate d;plate e;plate f;", 2, 40);
        bad("falls 1;falls 2;", 2, 8);
        bad("luck 1;luck 1;", 2, 7);
        bad("draw 1;draw 1;", 2, 7);
    }

    private static void toldAlready() {
        bad("plate a;plate a;", 3, 14);
        bad("plate a;chute a a;", 3, 16);
        bad("plate a;plate b;chute a b;chute b a;", 3, 34);
        bad("plate a;plate b;chute a b;chute a b;", 3, 34);
        bad("plate a;drain a;drain a;", 3, 22);
    }

    private static void numbers() {
        bad("plate a holds 100;", 4, 14);
        bad("plate a;drain a wide 0;", 4, 21);
        bad("plate a;drain a wide 3;", 4, 21);
        bad("plate a;plate b;chute a b wide 3;", 4, 31);
        bad("luck 101;", 4, 5);
        bad("draw 1000;", 4, 5);
        DUE.is("luck 100", Due.told("luck 100;").about(13), 100);
        DUE.is("luck 0", Due.told("luck 0;").about(13), 0);
    }

    /** What lay on the tape behind its end is no part of the text. */
    private static void cut() {
        String[] texts = {"plate a;drain ab;", "luck 1000;", "luck 5a;", "luck 5;luck 6;"};
        int[] ends = {15, 8, 6, 7};
        int[] answers = {-1, -1, -1, 0};
        for (int i = 0; i < texts.length; i++) {
            SandPlates x = new SandPlates();
            Due.write(x, texts[i]);
            DUE.is("end", x.end(ends[i]), ends[i]);
            DUE.is("cut " + texts[i], x.table(), answers[i]);
            DUE.is("cut fault(0)", x.fault(0), answers[i] < 0 ? 2 : 0);
            DUE.is("cut fault(1)", x.fault(1), answers[i] < 0 ? ends[i] : -1);
        }
    }

    private static void names() {
        bad("drain a;", 5, 6);
        bad("plate a;chute b a;", 5, 14);
        bad("plate a;chute a b;plate b;", 5, 16);
        bad("chute a a;", 5, 6);
    }

    private static void ways() {
        bad("plate a;", 6, 8);
        bad("plate a; ", 6, 9);
        bad("plate a;plate b;plate c;chute a b;drain c;", 6, 42);
        bad("plate a;luck 101;", 4, 13);
    }

    private static String units(int many) {
        StringBuilder text = new StringBuilder("falls 1");
        for (int i = 1; i < many; i++) {
            text.append("+1");
        }
        return text.toString();
    }

    private static void units() {
        DUE.is("30 units", Due.told(units(30) + ";").about(11), 30);
        bad(units(31) + ";", 2, 6 + 60);
        bad(units(30) + "+;", 2, 6 + 60);
        DUE.is("( e ) is one", Due.told("falls (1+2)*(grains);").about(11), 5);
        bad(units(29) + "+(1);", 2, 6 + 59);
        DUE.is("29 and ( e )", Due.told(units(28) + "+(1);").about(11), 30);
    }

    private static String rep(String part, int times) {
        return part.repeat(times);
    }

    private static void depth() {
        DUE.is("7 (", Due.told("falls " + rep("(", 7) + "1" + rep(")", 7) + ";").about(11), 8);
        bad("falls " + rep("(", 8) + "1" + rep(")", 8) + ";", 2, 13);
        DUE.is("7 not", Due.told("falls " + rep("not ", 7) + "1;").about(11), 1);
        bad("falls " + rep("not ", 8) + "1;", 2, 6 + 28);
        DUE.is("7 of both", Due.told("falls not not (not (not (1)));").about(11), 4);
        bad("falls not not (not (not ((1))));", 2, 25);
        bad("falls not not (not (not (not 1)));", 2, 25);
        // What is not within one another may be as much as there are units.
        DUE.is("nots in a row", Due.told("falls not not 1 and not not 1 and (not (1)) and (((((((1)))))));").about(11), 13);
    }

    private static void formulaForms() {
        bad("falls ;", 2, 6);
        bad("falls 1 < 2 < 3;", 2, 12);
        bad("falls 1 + not 1;", 2, 10);
        bad("falls 1 < not 1;", 2, 10);
        bad("falls (1;", 2, 8);
        bad("falls 1);", 2, 7);
        bad("falls ();", 2, 7);
        bad("falls - 1;", 2, 6);
        bad("falls a;", 2, 6);
        bad("falls 1 or;", 2, 10);
        bad("falls 1 and or 1;", 2, 12);
        bad("falls 1 2;", 2, 8);
        bad("falls 1", 2, 7);
        bad("falls plate;", 2, 6);
    }

    private static void asTold() {
        SandPlates x = Due.told("plate a holds 2;plate b;plate c holds 9;plate d;plate e;"
            + "chute a b wide 2;chute c b;chute d c;chute e a;drain a;drain d wide 2;");
        DUE.is("plate(0, 0)", x.plate(0, 0), 2);
        DUE.is("plate(2, 0)", x.plate(2, 0), 9);
        DUE.is("plate(0, 1)", x.plate(0, 1), 4);
        DUE.is("plate(1, 1)", x.plate(1, 1), 3);
        DUE.is("plate(3, 1)", x.plate(3, 1), 3);
        DUE.is("plate(4, 1)", x.plate(4, 1), 1);
        DUE.is("plate(0, 2)", x.plate(0, 2), 1);
        DUE.is("plate(1, 2)", x.plate(1, 2), 0);
        DUE.is("plate(3, 2)", x.plate(3, 2), 2);
        DUE.is("plate(0, 3)", x.plate(0, 3), 2 + 16);
        DUE.is("plate(1, 3)", x.plate(1, 3), 1 + 4);
        DUE.is("plate(0, 4)", x.plate(0, 4), -1);
        DUE.is("plate(0, -1)", x.plate(0, -1), -1);
        DUE.is("plate(5, 0)", x.plate(5, 0), -1);
        DUE.is("plate(-1, 0)", x.plate(-1, 0), -1);
        DUE.is("wide(0, 1)", x.wide(0, 1), 2);
        DUE.is("wide(1, 0)", x.wide(1, 0), 2);
        DUE.is("wide(0, 2)", x.wide(0, 2), 0);
        DUE.is("wide(2, 2)", x.wide(2, 2), 0);
        DUE.is("wide(0, 5)", x.wide(0, 5), -1);
        DUE.is("wide(-1, 0)", x.wide(-1, 0), -1);
        DUE.is("far(0)", x.far(0), 1);
        DUE.is("far(1)", x.far(1), 2);
        DUE.is("far(2)", x.far(2), 2);
        DUE.is("far(3)", x.far(3), 1);
        DUE.is("far(4)", x.far(4), 2);
        DUE.is("far(5)", x.far(5), -1);
        DUE.is("far(-1)", x.far(-1), -1);
        DUE.is("chutes", x.about(1), 6);
        SandPlates path = Due.told("plate a;plate b;plate c;plate d;plate e;drain a;"
            + "chute a b;chute b c;chute c d;chute d e;");
        DUE.is("far(4) of a path", path.far(4), 5);
        // A fault behind a good table must not change what is told of it.
        Due.write(path, "plate x;plate y;drain y;");
        DUE.is("no way", path.table(), -1);
        DUE.is("far(4) still", path.far(4), 5);
        DUE.is("brim still", path.plate(0, 1), 2);
    }
}
