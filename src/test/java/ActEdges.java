import java.util.Random;

/** The boundary cases of toppling, of days, of acts, and of promises 9 to 16. */
final class ActEdges {
    private static final Due DUE = Edges.DUE;

    private ActEdges() {
    }

    static void all(Edges e) {
        toppling(e);
        days(e);
        acts(e);
        promises(e);
    }

    private static void toppling(Edges e) {
        e.of(0, "A PLATE with as many grains as its BRIM tells, or more, can TOPPLE:", ActEdges::atTheBrim);
        e.of(0, "it has as many fewer, each PLATE to which it has a CHUTE as many more as that is wide, the DRAIN likewise.",
            ActEdges::whereGrainsGo);
        e.of(0, "A HEAP is SETTLED if no PLATE can TOPPLE.", ActEdges::settledHeaps);
        e.of(0, "(in whatever order: each as often, to the same HEAP).", ActEdges::anyOrder);
    }

    private static void days(Edges e) {
        e.of(0, "as comes of falls (0, if it is not told)", ActEdges::fallsNotTold);
        e.of(0, "by grains (on it, ahead of the DAY),", ActEdges::grainsAhead);
        e.of(0, "number (of the PLATE, 0 ..),", ActEdges::numbersFromNought);
        e.of(0, "day (0 at first;", ActEdges::firstDay);
        e.of(0, "ints, wrapping;", ActEdges::wrapping);
        e.of(0, "/ cut, % its rest,", ActEdges::cutDivision);
        e.of(0, "both by 0: 0;", ActEdges::byNought);
        e.of(0, "relations, and, or, not are 1 or 0, of what is not 0),", ActEdges::truths);
        e.of(0, "0 at least,", ActEdges::nothingBelowNought);
        e.of(0, "20 at most", ActEdges::twentyAtMost);
        e.of(0, "(by falls, luck a PLATE comes to 999 grains at most;", ActEdges::to999);
        e.of(0, "one that has more by TOPPLINGS keeps them, nothing falls on it);", ActEdges::above999);
        e.of(0, "then the SEED (draw, at first) becomes its 137-fold and 71 more, modulo 1,000;", ActEdges::seeds);
        e.of(0, "if its rest by 100 is less than luck tells", ActEdges::lessThanLuck);
        e.of(0, "and there are PLATES,", ActEdges::luckWithoutPlates);
        e.of(0, "the PLATE whose number is the SEED modulo how many there are has one grain more (likewise);",
            ActEdges::whereLuckFalls);
        e.of(0, "then all SETTLES. The day goes up by 1.", ActEdges::dayGoesUp);
        e.of(0, "The DRAIN has 0 grains at first; they are never taken out of it.", ActEdges::neverOutOfDrain);
    }

    private static void acts(Edges e) {
        e.of(0, "grains are dropped on a PLATE; a PLATE that can TOPPLES once; all SETTLES;", ActEdges::onceByHand);
        e.of(0, "a PLATE is swept (its grains are gone).", ActEdges::sweptGrainsAreGone);
        e.of(0, "UNDO takes back the latest ACT that was not,", ActEdges::undoEach);
        e.of(0, "REDO does that again which was taken back last (till another ACT);", ActEdges::redoTillAnotherAct);
        e.of(0, "40 at most are kept, the oldest go.", ActEdges::fortyActs);
    }

    private static void promises(Edges e) {
        e.of(9, "how many TOPPLINGS there were;", ActEdges::topplingsOfDay);
        e.of(9, "NONE, doing nothing, behind 999 of them.", ActEdges::behind999Days);
        e.of(10, "Grains are dropped (1 .. 20): how many there are then;", ActEdges::oneToTwenty);
        e.of(10, "NONE, doing nothing, if there would be more than 999,", ActEdges::dropTo999);
        e.of(10, "or one can't be.", ActEdges::dropThatCannotBe);
        e.of(11, "It TOPPLES: how many are left on it;", ActEdges::leftBehindToppling);
        e.of(11, "NONE, doing nothing, if it can't,", ActEdges::cannotTopple);
        e.of(11, "or there is none such.", ActEdges::toppleNoneSuch);
        e.of(12, "how many TOPPLINGS there were;", ActEdges::topplingsOfSettle);
        e.of(12, "NONE, doing nothing, if it is SETTLED.", ActEdges::settledAlready);
        e.of(13, "how many grains are gone;", ActEdges::sweepCounts);
        e.of(13, "NONE, doing nothing, if there are none,", ActEdges::sweepNothing);
        e.of(13, "or no such PLATE.", ActEdges::sweepNoneSuch);
        e.of(14, "true; false if there is none.", ActEdges::nothingToUndo);
        e.of(15, "true; false if there is none.", ActEdges::nothingToRedo);
        e.of(16, "behind n DAYS (0 .. 30);", ActEdges::noughtToThirtyDays);
        e.of(16, "luck as the SEED tells (what 1), none (0);", ActEdges::luckAhead);
        e.of(16, "NONE if one can't be.", ActEdges::willThatCannotBe);
    }

    // ---- toppling

    private static void atTheBrim() {
        for (int brim = 1; brim <= 4; brim++) {
            String text = "plate a holds %d;plate b;drain a wide " + (brim > 1 ? 2 : 1) + ";drain b;"
                + (brim > 2 ? "chute a b wide " + (brim - 2) + ";" : "");
            for (int holds = 0; holds <= 2 * brim; holds++) {
                SandPlates x = Due.told(String.format(text, holds));
                DUE.is("brim", x.plate(0, 1), brim);
                DUE.is(holds + " of " + brim + " over", x.over(), holds >= brim ? 1 : 0);
                DUE.is(holds + " of " + brim + " topple", x.topple(0), holds >= brim ? holds - brim : -1);
            }
        }
    }

    private static void whereGrainsGo() {
        SandPlates x = Due.told("plate a holds 9;plate b;plate c;plate d;chute b a;chute a c wide 2;drain a wide 2;"
            + "chute d c;");
        DUE.is("left", x.topple(0), 4);
        Edges.heap("once", x, 4, 1, 2, 0);
        DUE.is("drain", x.about(3), 2);
        x = Due.told("plate a holds 1;plate b;chute a b;drain b;");
        x.topple(0);
        Edges.heap("nothing into the drain", x, 0, 1);
        DUE.is("drain", x.about(3), 0);
    }

    private static void settledHeaps() {
        DUE.is("no plates", new SandPlates().about(14), 1);
        DUE.is("no grains", Due.told("plate a;drain a;").about(14), 1);
        DUE.is("one at the brim", Due.told("plate a holds 1;drain a;").about(14), 0);
        DUE.is("all below", Due.told("plate a holds 2;plate b holds 2;chute a b wide 2;drain a;drain b;").about(14), 1);
        DUE.is("the last at it", Due.told("plate a holds 2;plate b holds 3;chute a b wide 2;drain a;drain b;").about(14), 0);
    }

    private static void anyOrder() {
        String text = "plate a holds 4;plate b holds 5;plate c holds 3;chute a b wide 2;chute b c;drain c;drain a;";
        SandPlates want = Due.told(text);
        int[] often = {want.often(0), want.often(1), want.often(2)};
        int topplings = want.settle();
        for (int seed = 0; seed < 30; seed++) {
            Random chance = new Random(seed);
            SandPlates x = Due.told(text);
            int[] times = new int[3];
            for (int i = 0; i < 150 && x.over() != 0; i++) {
                int plate = chance.nextInt(3);
                times[plate] += x.topple(plate) >= 0 ? 1 : 0;
            }
            DUE.is("all together", times[0] + times[1] + times[2], topplings);
            for (int i = 0; i < 3; i++) {
                DUE.is("plate " + i + " as often", times[i], often[i]);
                DUE.is("plate " + i + " has", x.plate(i, 0), want.plate(i, 0));
            }
            DUE.is("the drain", x.about(3), want.about(3));
        }
    }

    // ---- days

    /** How many grains come of a formula on one plate with 5 on it, on day 0. */
    private static void fall(String formula, int want) {
        SandPlates x = Due.told("plate a holds 5;drain a wide 2;falls " + formula + ";");
        x.day();
        DUE.is("falls " + formula, x.about(2) + x.about(3) - 5, want);
    }

    private static void fallsNotTold() {
        SandPlates x = Due.told("plate a holds 5;plate b;drain a wide 2;drain b;");
        DUE.is("all settles", x.day(), 2);
        DUE.is("nothing falls", x.about(2) + x.about(3), 5);
        // What fell by earlier tables is forgotten.
        for (int i = 0; i < 3; i++) {
            Due.write(x, "falls 7;");
            x.table();
            Due.write(x, "plate a holds 5;drain a wide 2;");
            x.table();
            x.day();
            DUE.is("nothing falls", x.about(2) + x.about(3), 5);
        }
    }

    private static void grainsAhead() {
        fall("grains", 5);
        fall("grains*brim", 10);
        SandPlates x = Due.told("plate a holds 2;plate b holds 3;drain a wide 2;drain b wide 2;chute a b;falls grains;");
        x.day();
        // 4 and 6 by what was there ahead, not by what has fallen or toppled meanwhile.
        DUE.is("grains together", x.about(2) + x.about(3), 10);
        x = Due.told("plate a;drain a;falls grains+1;");
        x.day();
        DUE.is("drain", x.about(3), 1);
        x.day();
        DUE.is("the day's own grains don't count", x.about(3), 2);
    }

    private static void numbersFromNought() {
        SandPlates x = Due.told("plate a;plate b;plate c;plate d;plate e;drain a;drain b;drain c;drain d;drain e;falls number;");
        x.image(0);
        DUE.is("0 + 1 + 2 + 3 + 4", x.day(), 10);
        x = Due.told("plate a;plate b;plate c;plate d;plate e;drain a;drain b;drain c;drain d;drain e;falls number=0;");
        DUE.is("one of them is 0", x.day(), 1);
        x = Due.told("plate a;plate b;plate c;plate d;plate e;drain a;drain b;drain c;drain d;drain e;falls number=4;");
        DUE.is("one of them is 4", x.day(), 1);
        x = Due.told("plate a;plate b;plate c;plate d;plate e;drain a;drain b;drain c;drain d;drain e;falls number>4;");
        DUE.is("none is above", x.day(), 0);
    }

    private static void firstDay() {
        SandPlates x = Due.told("plate a;drain a;falls day+(day=0)*7;");
        int[] falls = {7, 1, 2, 3};
        for (int i = 0; i < falls.length; i++) {
            DUE.is("day " + i, x.day(), falls[i]);
        }
    }

    private static void wrapping() {
        // 2 to the 32nd is 0, 2 to the 31st the least number there is.
        fall("256*256*256*256+5", 5);
        fall("256*256*256*128<0", 1);
        fall("256*256*256*128-1>0", 1);
        fall("256*256*256*128-1+1<0", 1);
        fall("0-256*256*256*128<0", 1);
        fall("0-256*256*256*128=256*256*256*128", 1);
        fall("256*256*256*128+256*256*256*128+9", 9);
        fall("256*256*256*128*2+9", 9);
        fall("9999*9999*9999", 0);
        fall("0-9999*9999*9999", 20);
    }

    private static void cutDivision() {
        fall("7/2", 3);
        fall("(0-7)/2+10", 7);
        fall("7/(0-2)+10", 7);
        fall("(0-7)/(0-2)", 3);
        fall("7%4", 3);
        fall("(0-7)%4+10", 7);
        fall("7%(0-4)", 3);
        fall("(0-7)%(0-4)+10", 7);
        fall("1/2", 0);
        fall("(0-1)/2+10", 10);
        // The least number by -1 comes to itself, and leaves no rest.
        fall("256*256*256*128/(0-1)<0", 1);
        fall("256*256*256*128%(0-1)+4", 4);
    }

    private static void byNought() {
        fall("5/0+1", 1);
        fall("5%0+1", 1);
        fall("0/0+1", 1);
        fall("0%0+1", 1);
        fall("7/(1-1)+2", 2);
        fall("7%number+2", 2);
        fall("(0-9)/0+2", 2);
        fall("(0-9)%day+2", 2);
    }

    private static void truths() {
        fall("3 and 4", 1);
        fall("(0-3) and (0-4)", 1);
        fall("3 and 0", 0);
        fall("0 and 3", 0);
        fall("0 and 0", 0);
        fall("0 or (0-5)", 1);
        fall("7 or 0", 1);
        fall("7 or 9", 1);
        fall("0 or 0", 0);
        fall("not 0", 1);
        fall("not 2", 0);
        fall("not (0-1)", 0);
        fall("not not 9", 1);
        fall("2<3", 1);
        fall("3<3", 0);
        fall("4<3", 0);
        fall("(0-1)<0", 1);
        fall("2>3", 0);
        fall("3>3", 0);
        fall("4>3", 1);
        fall("0>(0-1)", 1);
        fall("2=3", 0);
        fall("3=3", 1);
        fall("4=3", 0);
    }

    private static void nothingBelowNought() {
        fall("0", 0);
        fall("1", 1);
        fall("0-1", 0);
        fall("0-9999*9999", 0);
        fall("256*256*256*128", 0);
    }

    private static void twentyAtMost() {
        fall("19", 19);
        fall("20", 20);
        fall("21", 20);
        fall("9999", 20);
        fall("256*256*256*128-1", 20);
        SandPlates x = Due.told("plate a;plate b;drain a;drain b;falls 100;luck 100;");
        DUE.is("luck comes to it", x.day(), 41);
    }

    /** A plate with so many grains, and a second one with none; nothing has toppled. */
    private static SandPlates holding(int grains, String more) {
        SandPlates x = Due.told("plate a holds 19;plate b;chute a b;drain b wide 2;" + more);
        for (int left = grains - 19; left > 0; left -= 20) {
            x.drop(0, Math.min(20, left));
        }
        DUE.is("grains made", x.plate(0, 0), grains);
        return x;
    }

    private static void to999() {
        String falls = "falls (number=0)*5;";
        int[] has = {993, 994, 995, 998, 999};
        int[] more = {5, 5, 4, 1, 0};
        for (int i = 0; i < has.length; i++) {
            SandPlates x = holding(has[i], falls);
            x.day();
            DUE.is("5 fall on " + has[i], x.about(2) + x.about(3) - has[i], more[i]);
        }
        // The first seed is 71 % 2 = 1, behind draw 1 it is 208 % 2 = 0.
        int[] full = {998, 999};
        for (int grains : full) {
            SandPlates x = holding(grains, "luck 100;draw 1;");
            x.day();
            DUE.is("luck on " + grains, x.about(2) + x.about(3), 999);
        }
        SandPlates x = holding(994, falls + "luck 100;draw 1;");
        x.day();
        DUE.is("luck behind what fell", x.about(2) + x.about(3), 999);
        x = holding(993, falls + "luck 100;draw 1;");
        x.day();
        DUE.is("luck behind what fell", x.about(2) + x.about(3), 999);
        x = holding(999, "falls 5;luck 100;");
        x.day();
        DUE.is("the other plate has its own", x.about(2) + x.about(3), 999 + 6);
        DUE.is("ahead as on days", holding(995, falls).will(0, 1, 0), afterDay(holding(995, falls)));
    }

    private static int afterDay(SandPlates x) {
        x.day();
        return x.plate(0, 0);
    }

    /** A plate with 1001 grains, by toppling, and its neighbour with 95. */
    private static SandPlates heaped(String more) {
        SandPlates x = Due.told("plate a holds 99;plate b holds 98;chute a b wide 2;drain b;" + more);
        for (int i = 0; i < 45; i++) {
            x.drop(0, 20);
        }
        DUE.is("topple b", x.topple(1), 95);
        DUE.is("more by toppling", x.plate(0, 0), 1001);
        return x;
    }

    private static void above999() {
        SandPlates x = heaped("");
        x.day();
        DUE.is("it keeps them", x.about(2) + x.about(3), 1001 + 95 + 1);
        x = heaped("falls 5;");
        x.day();
        DUE.is("nothing falls on it", x.about(2) + x.about(3), 1001 + 95 + 1 + 5);
        x = heaped("luck 100;draw 1;");
        x.day();
        DUE.is("nor luck", x.about(2) + x.about(3), 1001 + 95 + 1);
        x = heaped("falls 0-5;");
        x.day();
        DUE.is("nor less than nothing", x.about(2) + x.about(3), 1001 + 95 + 1);
    }

    private static void seeds() {
        int[] draws = {0, 1, 7, 500, 929, 992, 999};
        for (int draw : draws) {
            SandPlates x = Due.told("draw " + draw + ";");
            DUE.is("at first", x.about(5), draw);
            int want = draw;
            for (int i = 0; i < 8; i++) {
                x.day();
                want = (want * 137 + 71) % 1000;
                DUE.is("seed " + i + " from " + draw, x.about(5), want);
            }
        }
        SandPlates x = new SandPlates();
        x.day();
        DUE.is("without a table", x.about(5), 71);
        x = Due.told("draw 999;");
        x.day();
        DUE.is("136934", x.about(5), 934);
        // It goes on without luck, and by days alone.
        x = Due.told("plate a;drain a;draw 999;");
        x.drop(0, 1);
        x.settle();
        DUE.is("no day, no seed", x.about(5), 999);
    }

    /** Grains that luck brings on the first day. */
    private static int lucky(int luck, int draw) {
        SandPlates x = Due.told("plate a;drain a;luck " + luck + ";draw " + draw + ";");
        return x.day();
    }

    private static void lessThanLuck() {
        // From 17 the seed is 400, from 44 it is 99, from 0 it is 71.
        DUE.is("0 is not less than 0", lucky(0, 17), 0);
        DUE.is("0 is less than 1", lucky(1, 17), 1);
        DUE.is("99 is not less than 99", lucky(99, 44), 0);
        DUE.is("99 is less than 100", lucky(100, 44), 1);
        DUE.is("71 is not less than 71", lucky(71, 0), 0);
        DUE.is("71 is less than 72", lucky(72, 0), 1);
        for (int draw = 0; draw < 1000; draw += 37) {
            DUE.is("no luck at all", lucky(0, draw), 0);
            DUE.is("luck always", lucky(100, draw), 1);
        }
    }

    private static void luckWithoutPlates() {
        SandPlates x = Due.told("luck 100;draw 17;");
        DUE.is("no topplings", x.day(), 0);
        DUE.is("no grains", x.about(2) + x.about(3), 0);
        DUE.is("the seed goes on", x.about(5), 400);
        DUE.is("so does the day", x.about(4), 1);
    }

    private static void whereLuckFalls() {
        // From 17 the seed is 400: plate 0 of 1, 0 of 2, 1 of 3, 0 of 4, 0 of 5; from 44 it is 99: 0, 1, 0, 3, 4.
        int[][] where = {{0, 0, 1, 0, 0}, {0, 1, 0, 3, 4}};
        int[] draws = {17, 44};
        for (int d = 0; d < 2; d++) {
            for (int plates = 1; plates <= 5; plates++) {
                StringBuilder text = new StringBuilder("luck 100;draw " + draws[d] + ";");
                for (int i = 0; i < plates; i++) {
                    char c = (char) ('a' + i);
                    text.append("plate ").append(c).append(";drain ").append(c).append(" wide 2;");
                }
                SandPlates x = Due.told(text.toString());
                x.day();
                DUE.is("one grain", x.about(2), 1);
                DUE.is("draw " + draws[d] + " of " + plates, x.plate(where[d][plates - 1], 0), 1);
            }
        }
    }

    private static void dayGoesUp() {
        SandPlates x = Due.told("plate a holds 9;drain a wide 2;falls 1;luck 100;");
        DUE.is("topplings with what falls and luck", x.day(), 5);
        DUE.is("settled", x.about(14), 1);
        DUE.is("day", x.about(4), 1);
        x.settle();
        x.drop(0, 1);
        DUE.is("by days alone", x.about(4), 1);
        x.day();
        DUE.is("day", x.about(4), 2);
        SandPlates none = new SandPlates();
        none.day();
        DUE.is("without plates", none.about(4), 1);
    }

    private static void neverOutOfDrain() {
        SandPlates x = Due.told("plate a holds 5;drain a;");
        DUE.is("at first", x.about(3), 0);
        x.topple(0);
        DUE.is("one", x.about(3), 1);
        x.sweep(0);
        DUE.is("a sweep leaves it", x.about(3), 1);
        x.drop(0, 20);
        x.settle();
        DUE.is("more", x.about(3), 21);
        x.day();
        DUE.is("a day leaves it", x.about(3), 21);
        x.undo();
        x.undo();
        DUE.is("but undone is undone", x.about(3), 1);
    }

    // ---- acts

    private static void onceByHand() {
        SandPlates x = Due.told("plate a holds 9;plate b holds 1;chute a b;drain b wide 2;");
        x.drop(1, 2);
        Edges.heap("nothing topples by a drop", x, 9, 3);
        x.topple(0);
        Edges.heap("a topples once, b not at all", x, 8, 4);
        x.topple(1);
        Edges.heap("b topples once", x, 9, 1);
        x.settle();
        DUE.is("all topples", x.about(14), 1);
        DUE.is("four acts", x.about(6), 4);
    }

    private static void sweptGrainsAreGone() {
        SandPlates x = Due.told("plate a holds 5;plate b holds 7;chute a b;drain b;");
        x.sweep(0);
        Edges.heap("swept", x, 0, 7);
        DUE.is("not in the drain", x.about(3), 0);
        x.sweep(1);
        Edges.heap("swept", x, 0, 0);
        DUE.is("all is gone", x.about(2), 0);
    }

    private static void undoEach() {
        for (int act = 0; act < 5; act++) {
            SandPlates x = Due.told("plate a holds 5;plate b holds 1;chute a b;drain b wide 2;falls 2;luck 50;draw 3;");
            x.drop(1, 1);
            int got = act == 0 ? x.day() : act == 1 ? x.drop(0, 4) : act == 2 ? x.topple(0) : act == 3 ? x.settle()
                : x.sweep(0);
            DUE.is("act " + act + " is done", got >= 0, true);
            DUE.is("two acts", x.about(6), 2);
            DUE.is("undo", x.undo(), true);
            Edges.heap("act " + act + " undone", x, 5, 2);
            DUE.is("drain", x.about(3), 0);
            DUE.is("day", x.about(4), 0);
            DUE.is("seed", x.about(5), 3);
            DUE.is("undo", x.undo(), true);
            Edges.heap("the one before", x, 5, 1);
            DUE.is("undo", x.undo(), false);
            DUE.is("to redo", x.about(7), 2);
        }
    }

    private static void redoTillAnotherAct() {
        SandPlates x = Due.told("plate a holds 5;drain a wide 2;");
        x.drop(0, 1);
        x.drop(0, 2);
        x.drop(0, 3);
        x.undo();
        x.undo();
        x.undo();
        DUE.is("redo", x.redo(), true);
        DUE.is("the last taken back comes first", x.plate(0, 0), 6);
        DUE.is("redo", x.redo(), true);
        DUE.is("then the next", x.plate(0, 0), 8);
        DUE.is("left", x.about(7), 1);
        x.sweep(0);
        DUE.is("behind another act", x.redo(), false);
        DUE.is("none are left", x.about(7), 0);
        DUE.is("it stays swept", x.plate(0, 0), 0);
        x.undo();
        DUE.is("back to what it was", x.plate(0, 0), 8);
        DUE.is("the sweep can be done again", x.redo(), true);
        DUE.is("swept", x.plate(0, 0), 0);
    }

    private static void fortyActs() {
        for (int many = 39; many <= 42; many++) {
            SandPlates x = Due.told("plate a;drain a wide 2;");
            for (int i = 0; i < many; i++) {
                x.drop(0, 1);
            }
            int kept = Math.min(40, many);
            DUE.is("kept of " + many, x.about(6), kept);
            for (int i = 0; i < kept; i++) {
                DUE.is("undo", x.undo(), true);
            }
            DUE.is("no more of " + many, x.undo(), false);
            DUE.is("the oldest are gone", x.plate(0, 0), many - kept);
            DUE.is("to redo", x.about(7), kept);
            for (int i = 0; i < kept; i++) {
                DUE.is("redo", x.redo(), true);
            }
            DUE.is("no more to redo", x.redo(), false);
            DUE.is("all are there again", x.plate(0, 0), many);
        }
        // Behind undone ones, forty again.
        SandPlates x = Due.told("plate a;drain a wide 2;");
        for (int i = 0; i < 45; i++) {
            x.drop(0, 1);
        }
        for (int i = 0; i < 10; i++) {
            x.undo();
        }
        DUE.is("30 are left", x.about(6), 30);
        for (int i = 0; i < 11; i++) {
            x.drop(0, 2);
        }
        DUE.is("40 again", x.about(6), 40);
        DUE.is("none to redo", x.about(7), 0);
        while (x.undo()) {
            x.about(6);
        }
        DUE.is("from the sixth drop on", x.plate(0, 0), 6);
    }

    // ---- promises

    private static void topplingsOfDay() {
        DUE.is("without plates", new SandPlates().day(), 0);
        DUE.is("below the brim", Due.told("plate a;drain a wide 2;falls 1;").day(), 0);
        DUE.is("at the brim", Due.told("plate a holds 1;drain a wide 2;falls 1;").day(), 1);
        DUE.is("back and forth", Due.told("plate a holds 5;plate b;chute a b;drain b;").day(), 13);
    }

    /** No run of 512 calls comes there; it holds all the same. */
    private static void behind999Days() {
        SandPlates x = Due.told("plate a;drain a;falls 1;luck 50;");
        for (int i = 0; i < 998; i++) {
            x.day();
        }
        DUE.is("998 days", x.about(4), 998);
        DUE.is("one more", x.day() >= 0, true);
        DUE.is("999 days", x.about(4), 999);
        int seed = x.about(5);
        int drain = x.about(3);
        DUE.is("none behind them", x.day(), -1);
        DUE.is("the day stays", x.about(4), 999);
        DUE.is("the seed stays", x.about(5), seed);
        DUE.is("the drain stays", x.about(3), drain);
        DUE.is("acts stay", x.about(6), 40);
        x.undo();
        DUE.is("one undone", x.about(4), 998);
        DUE.is("none is no act", x.redo(), true);
        x.undo();
        DUE.is("again", x.day() >= 0, true);
        DUE.is("999 days", x.about(4), 999);
    }

    private static void oneToTwenty() {
        SandPlates x = Due.told("plate a holds 3;plate b;drain a;drain b;");
        DUE.is("drop 1", x.drop(0, 1), 4);
        DUE.is("drop 20", x.drop(0, 20), 24);
        Edges.heap("nothing topples, nothing falls elsewhere", x, 24, 0);
        Edges.only("drop many", 1, 20, -1, many -> Due.told("plate a;drain a;").drop(0, many));
    }

    private static void dropTo999() {
        DUE.is("979 and 20", holding(979, "").drop(0, 20), 999);
        Twins.refused("980 and 20", () -> holding(980, ""), x -> x.drop(0, 20), -1);
        DUE.is("998 and 1", holding(998, "").drop(0, 1), 999);
        Twins.refused("998 and 2", () -> holding(998, ""), x -> x.drop(0, 2), -1);
        Twins.refused("999 and 1", () -> holding(999, ""), x -> x.drop(0, 1), -1);
        Twins.refused("1001 and 1", () -> heaped(""), x -> x.drop(0, 1), -1);
        DUE.is("on another plate", holding(999, "").drop(1, 20), 20);
    }

    private static void dropThatCannotBe() {
        for (int many : new int[] {0, 21, -1, -20, Edges.MIN, Edges.MAX}) {
            Twins.refused("drop(0, " + many + ")", x -> x.drop(0, many), -1);
        }
        for (int plate : new int[] {-1, 3, 4, 5, Edges.MIN, Edges.MAX}) {
            Twins.refused("drop(" + plate + ", 1)", x -> x.drop(plate, 1), -1);
        }
        Edges.onlyPlates("drop", (x, plate) -> x.drop(plate, 1));
    }

    private static void leftBehindToppling() {
        SandPlates x = Due.told("plate a holds 7;plate b;drain a wide 2;chute a b;");
        DUE.is("once", x.topple(0), 4);
        DUE.is("twice", x.topple(0), 1);
        DUE.is("no more", x.topple(0), -1);
        DUE.is("from the other", x.topple(1), 1);
        DUE.is("to none", Due.told("plate a holds 2;drain a wide 2;").topple(0), 0);
    }

    private static void cannotTopple() {
        Twins.refused("one below the brim", () -> Due.told("plate a holds 1;drain a wide 2;"), x -> x.topple(0), -1);
        Twins.refused("without grains", () -> Due.told("plate a;drain a;"), x -> x.topple(0), -1);
        // Behind its day the rich one is settled.
        for (int plate = 0; plate < 3; plate++) {
            int which = plate;
            Twins.refused("topple(" + plate + ")", x -> x.topple(which), -1);
        }
    }

    private static void toppleNoneSuch() {
        for (int plate : new int[] {-1, 3, 4, 5, Edges.MIN, Edges.MAX}) {
            Twins.refused("topple(" + plate + ")", x -> x.topple(plate), -1);
        }
        Edges.onlyPlates("topple", SandPlates::topple);
    }

    private static void topplingsOfSettle() {
        DUE.is("one", Due.told("plate a holds 1;drain a;").settle(), 1);
        DUE.is("99", Due.told("plate a holds 99;drain a;").settle(), 99);
        DUE.is("back and forth", Due.told("plate a holds 5;plate b;chute a b;drain b;").settle(), 13);
        SandPlates x = Due.told("plate a holds 5;drain a;falls 9;luck 100;");
        x.settle();
        DUE.is("nothing falls", x.about(3), 5);
        DUE.is("no day", x.about(4), 0);
        DUE.is("no seed", x.about(5), 0);
    }

    private static void settledAlready() {
        Twins.refused("settle()", SandPlates::settle, -1);
        DUE.is("without plates", new SandPlates().settle(), -1);
        DUE.is("no grains", Due.told("plate a;drain a;").settle(), -1);
        SandPlates x = Due.told("plate a holds 5;drain a;");
        DUE.is("settle", x.settle(), 5);
        DUE.is("again", x.settle(), -1);
        DUE.is("one act", x.about(6), 1);
    }

    private static void sweepCounts() {
        DUE.is("one", Due.told("plate a holds 1;drain a;").sweep(0), 1);
        DUE.is("99", Due.told("plate a holds 99;drain a;").sweep(0), 99);
        DUE.is("more than 999", heaped("").sweep(0), 1001);
    }

    private static void sweepNothing() {
        SandPlates x = Due.told("plate a holds 1;plate b;drain a;drain b;");
        DUE.is("none on b", x.sweep(1), -1);
        DUE.is("sweep a", x.sweep(0), 1);
        DUE.is("sweep a again", x.sweep(0), -1);
        DUE.is("one act", x.about(6), 1);
        Twins.refused("sweep(0)", ActEdges::swept, t -> t.sweep(0), -1);
    }

    /** Swept, and one more act taken back. */
    private static SandPlates swept() {
        SandPlates x = Twins.rich();
        x.sweep(0);
        x.drop(1, 3);
        x.undo();
        return x;
    }

    private static void sweepNoneSuch() {
        for (int plate : new int[] {-1, 3, 4, 5, Edges.MIN, Edges.MAX}) {
            Twins.refused("sweep(" + plate + ")", x -> x.sweep(plate), -1);
        }
        Edges.onlyPlates("sweep", SandPlates::sweep);
    }

    private static SandPlates allUndone() {
        SandPlates x = Twins.rich();
        x.undo();
        x.undo();
        return x;
    }

    private static SandPlates allRedone() {
        SandPlates x = Twins.rich();
        x.redo();
        x.redo();
        return x;
    }

    private static void nothingToUndo() {
        DUE.is("a new object", new SandPlates().undo(), false);
        DUE.is("a new table", Due.told("plate a;drain a;").undo(), false);
        SandPlates x = Twins.rich();
        DUE.is("the second", x.undo(), true);
        DUE.is("the first", x.undo(), true);
        DUE.is("none", x.undo(), false);
        Twins.refused("undo()", ActEdges::allUndone, t -> t.undo() ? 1 : 0, 0);
        x.back(0);
        DUE.is("behind an image", x.undo(), false);
    }

    private static void nothingToRedo() {
        DUE.is("a new object", new SandPlates().redo(), false);
        DUE.is("a new table", Due.told("plate a;drain a;").redo(), false);
        SandPlates x = Twins.rich();
        DUE.is("the first", x.redo(), true);
        DUE.is("the second", x.redo(), true);
        DUE.is("none", x.redo(), false);
        Twins.refused("redo()", ActEdges::allRedone, t -> t.redo() ? 1 : 0, 0);
        x.undo();
        x.back(0);
        DUE.is("behind an image", x.redo(), false);
    }

    private static void noughtToThirtyDays() {
        String text = "plate a holds 9;drain a wide 2;plate b;chute a b;falls day%3;";
        SandPlates x = Due.told(text);
        DUE.is("0: nothing settles", x.will(0, 0, 0), 9);
        DUE.is("0: nothing settles", x.will(0, 0, 1), 9);
        SandPlates y = Due.told(text);
        for (int n = 1; n <= 30; n++) {
            y.day();
            DUE.is("behind " + n, x.will(0, n, 0), y.plate(0, 0));
            DUE.is("behind " + n, x.will(1, n, 1), y.plate(1, 0));
        }
        Edges.only("will n", 0, 30, -1, n -> Due.told(text).will(0, n, 0));
        Twins.asked("will(0, 30, 1)", t -> t.will(0, 30, 1));
        Twins.asked("will(2, 1, 0)", t -> t.will(2, 1, 0));
    }

    private static void luckAhead() {
        SandPlates x = Due.told("plate a;drain a wide 2;luck 100;");
        DUE.is("none", x.will(0, 1, 0), 0);
        DUE.is("one", x.will(0, 1, 1), 1);
        DUE.is("two", x.will(0, 2, 1), 0);
        DUE.is("three", x.will(0, 3, 1), 1);
        // By the seed of now, not by that of the table.
        x = Due.told("plate a;drain a wide 2;luck 72;");
        DUE.is("71 is less than 72", x.will(0, 1, 1), 1);
        x.day();
        x.sweep(0);
        DUE.is("98 is not", x.will(0, 1, 1), 0);
    }

    private static void willThatCannotBe() {
        SandPlates x = Twins.rich();
        for (int n : new int[] {-1, 31, Edges.MIN, Edges.MAX}) {
            DUE.is("will(0, " + n + ", 0)", x.will(0, n, 0), -1);
            DUE.is("will(0, " + n + ", 1)", x.will(0, n, 1), -1);
        }
        Edges.only("will what", 0, 1, -1, what -> Twins.rich().will(0, 1, what));
        Edges.onlyPlates("will", (t, plate) -> t.will(plate, 3, 0));
        DUE.is("without plates", new SandPlates().will(0, 0, 0), -1);
    }
}
