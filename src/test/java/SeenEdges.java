/** The boundary cases of what lies there, of what was seen, of images, and of promises 46 to 55. */
final class SeenEdges {
    private static final Due DUE = Edges.DUE;
    /** With x on b all settles to x % 2 on b; a keeps its 1. */
    private static final String HALF = "plate a holds 1;plate b holds 50;drain a wide 2;drain b wide 2;";

    /** More than 31 grains on e must come together till it ends as it did: no two guesses end alike. */
    private static final String APART = "plate a holds 3;plate b;plate c holds 2;plate d;plate e holds %d;chute b a;chute c a;"
        + "chute d a;chute d b;chute d c;chute e a wide 2;chute e b wide 2;chute e c;chute e d;drain a wide 2;drain b;"
        + "drain c;drain d wide 2;";

    private SeenEdges() {
    }

    static void all(Edges e) {
        terms(e);
        seen(e);
        known(e);
        images(e);
        abouts(e);
    }

    private static void terms(Edges e) {
        e.of(0, "SEEN, 30 at most,", SeenEdges::thirtySeen);
        e.of(0, "is TOLD at a TIME (0 at first, goes on),", SeenEdges::timeGoesOn);
        e.of(0, "UNTOLD at a later one or the same,", SeenEdges::untoldAtTheSame);
        e.of(0, "of the table as it was told, but for how many grains there were on the last PLATE, which is not known:",
            SeenEdges::asItWasTold);
        e.of(0, "that when all SETTLED there were so many at least on a PLATE, or were not.", SeenEdges::soManyAtLeast);
        e.of(0, "As known at k that counts that was TOLD at k or before, not UNTOLD at k or before.", SeenEdges::atOrBefore);
        e.of(0, "FITS: so many (0 .. 30) by which all that counts is so.", SeenEdges::noughtToThirty);
        e.of(0, "would leave the fewest of these at the most; of like ones the first.", SeenEdges::fewestLeft);
        e.of(0, "`NONE = -1`: There is none.", () -> DUE.is("NONE", SandPlates.NONE, -1));
    }

    private static void seen(Edges e) {
        e.of(46, "The i-th number of what lies there;", SeenEdges::firstAndLastLying);
        e.of(46, "-2 if there is none such.", SeenEdges::noneLying);
        e.of(47, "A SEEN (so many 0 .. 99): its number;", SeenEdges::seenNumbers);
        e.of(47, "NONE, doing nothing, if one can't be,", SeenEdges::seenThatCannotBe);
        e.of(47, "or there are 30.", SeenEdges::thirtyFirst);
        e.of(48, "It is UNTOLD: true; false if it is so already,", SeenEdges::untoldAlready);
        e.of(48, "or there is none such.", SeenEdges::untellNoneSuch);
        e.of(49, "So much later (0 .. 1000): the TIME;", SeenEdges::noughtToThousandLater);
        e.of(49, "NONE, doing nothing, for another number,", SeenEdges::laterByAnotherNumber);
        e.of(49, "or if it would be above 100,000.", SeenEdges::aboveTheLastTime);
    }

    private static void known(Edges e) {
        e.of(50, "FITS: how many", SeenEdges::noneOrAllFit);
        e.of(50, "how many", SeenEdges::oneAloneFits);
        e.of(50, "(0 without PLATES).", () -> {
            for (int k : new int[] {0, -1, 100000, Edges.MIN, Edges.MAX}) {
                DUE.is("fits(" + k + ")", new SandPlates().fits(k), 0);
                DUE.is("fits(" + k + ") of a table without them", Due.told("luck 5;").fits(k), 0);
            }
        });
        e.of(51, "The least of FITS (what 0), the greatest (1);", SeenEdges::leastAndGreatest);
        e.of(51, "NONE if none FITS,", SeenEdges::noneIsSure);
        e.of(51, "or for another what.", () -> Edges.only("sure", 0, 1, -1, what -> Due.told(HALF).sure(what, 0)));
        e.of(52, "ASK what 0: the PLATE, 1: how many are left at the most;", SeenEdges::firstAndLastToAsk);
        e.of(52, "NONE if none FITS,", SeenEdges::noneToAsk);
        e.of(52, "or for another what.", () -> Edges.only("ask", 0, 1, -1, what -> Due.told(HALF).ask(what, 0)));
    }

    private static void images(Edges e) {
        e.of(53, "are kept in a BOX 0 .. 2: the LEVEL;", SeenEdges::threeBoxes);
        e.of(53, "NONE if there is none such.", SeenEdges::noSuchBox);
        e.of(54, "All is as it was kept", SeenEdges::asItWasKept);
        e.of(54, "(no ACTS are kept then):", SeenEdges::noActsBehindBack);
        e.of(54, "the LEVEL; NONE, doing nothing, if nothing was.", SeenEdges::backToNothing);
    }

    private static void abouts(Edges e) {
        e.of(55, "What 0: PLATES, 1: CHUTES (the DRAIN's, too),", SeenEdges::platesAndChutes);
        e.of(55, "2: the LEVEL, 3: grains in the DRAIN, 4: the day, 5: the SEED,", SeenEdges::levelDrainDaySeed);
        e.of(55, "6: ACTS that can be undone, 7: redone,", SeenEdges::actsKept);
        e.of(55, "8: what is SEEN, 9: the TIME,", SeenEdges::seenAndTime);
        e.of(55, "10: bytes on the TAPE, 11: units, 12: numbers that lie there, 13: luck in 100,", SeenEdges::countsOfText);
        e.of(55, "14: 1 if all is SETTLED, else 0.", SeenEdges::settledOrNot);
        e.of(55, "NONE for another what.", () -> {
            Edges.only("about", 0, 14, -1, what -> Twins.rich().about(what));
            Edges.only("about a new object", 0, 14, -1, what -> new SandPlates().about(what));
        });
    }

    // ---- terms

    /** So many are seen, all of which are so. */
    private static SandPlates having(int many) {
        SandPlates x = Due.told(HALF);
        for (int i = 0; i < many; i++) {
            DUE.is("seen", x.seen(1, 0, true), i);
        }
        return x;
    }

    private static void thirtySeen() {
        DUE.is("the thirtieth", having(29).seen(1, 1, true), 29);
        DUE.is("one more", having(30).seen(1, 1, true), -1);
        SandPlates x = having(29);
        x.seen(1, 1, true);
        DUE.is("the thirtieth counts", x.fits(0), 15);
        // An untold one is still one of the thirty.
        x = having(30);
        x.untell(0);
        DUE.is("one untold", x.seen(1, 1, true), -1);
        DUE.is("so many", x.about(8), 30);
    }

    private static void timeGoesOn() {
        SandPlates x = Due.told(HALF);
        DUE.is("at first", x.about(9), 0);
        DUE.is("later", x.later(5), 5);
        DUE.is("later", x.later(5), 10);
        x.day();
        x.undo();
        x.image(0);
        x.later(1);
        x.back(0);
        DUE.is("an image leaves it", x.about(9), 11);
        x.seen(1, 1, true);
        DUE.is("not yet told at 10", x.fits(10), 31);
        DUE.is("told at 11", x.fits(11), 15);
    }

    private static void untoldAtTheSame() {
        SandPlates x = Due.told(HALF);
        x.later(4);
        x.seen(1, 1, true);
        DUE.is("untell", x.untell(0), true);
        DUE.is("it never counts", x.fits(3), 31);
        DUE.is("it never counts", x.fits(4), 31);
        DUE.is("it never counts", x.fits(5), 31);
        x.seen(1, 1, false);
        x.later(3);
        x.untell(1);
        DUE.is("till the later one", x.fits(4), 16);
        DUE.is("till the later one", x.fits(6), 16);
        DUE.is("not at it", x.fits(7), 31);
    }

    private static void asItWasTold() {
        // 1 on a, x on b with its one chute to a: a is the first to know of b by.
        String text = "plate a holds 1;plate b holds 77;chute a b;drain a wide 2;falls 9;luck 100;";
        SandPlates x = Due.told(text);
        SandPlates y = Due.told(text);
        y.day();
        y.drop(0, 9);
        y.image(0);
        y.sweep(1);
        for (int many = 0; many <= 2; many++) {
            x.seen(0, many, true);
            y.seen(0, many, true);
            DUE.is("what is done since changes nothing", y.fits(0), x.fits(0));
            DUE.is("the least", y.sure(0, 0), x.sure(0, 0));
        }
        // What the text tells of the last plate is not known: 31 it may be, though it is 77.
        DUE.is("not known", Due.told(text).fits(0), 31);
        // One plate is the last one.
        x = Due.told("plate a holds 1;drain a wide 2;");
        x.seen(0, 1, true);
        DUE.is("the odd ones", x.fits(0), 15);
    }

    private static void soManyAtLeast() {
        int[] fits = {31, 15, 0};
        for (int many = 0; many <= 2; many++) {
            SandPlates x = Due.told(HALF);
            x.seen(1, many, true);
            DUE.is("at least " + many + " on b", x.fits(0), fits[many]);
            x = Due.told(HALF);
            x.seen(1, many, false);
            DUE.is("not " + many + " on b", x.fits(0), 31 - fits[many]);
        }
        int[] known = {31, 31, 0};
        for (int many = 0; many <= 2; many++) {
            SandPlates x = Due.told(HALF);
            x.seen(0, many, true);
            DUE.is("at least " + many + " on a", x.fits(0), known[many]);
        }
    }

    private static void atOrBefore() {
        SandPlates x = Due.told(HALF);
        x.later(10);
        x.seen(1, 1, true);
        x.later(10);
        x.untell(0);
        int[] times = {Edges.MIN, -1, 0, 9, 10, 11, 19, 20, 21, 100000, Edges.MAX};
        int[] fits = {31, 31, 31, 31, 15, 15, 15, 31, 31, 31, 31};
        for (int i = 0; i < times.length; i++) {
            DUE.is("fits(" + times[i] + ")", x.fits(times[i]), fits[i]);
            DUE.is("sure(1, " + times[i] + ")", x.sure(1, times[i]), fits[i] == 15 ? 29 : 30);
            DUE.is("ask(1, " + times[i] + ")", x.ask(1, times[i]), fits[i] == 15 ? 15 : 16);
        }
        // Told at 0, not untold: known from 0 on for good, not before.
        x = Due.told(HALF);
        x.seen(1, 1, true);
        DUE.is("at -1", x.fits(-1), 31);
        DUE.is("at 0", x.fits(0), 15);
        DUE.is("at the end", x.fits(Edges.MAX), 15);
    }

    private static void noughtToThirty() {
        SandPlates x = Due.told("plate a;drain a wide 2;");
        DUE.is("all of them", x.fits(0), 31);
        DUE.is("from 0", x.sure(0, 0), 0);
        DUE.is("to 30", x.sure(1, 0), 30);
        // Even ones: 0, 2 .. 30.
        x.seen(0, 1, false);
        DUE.is("even ones", x.fits(0), 16);
        DUE.is("from 0", x.sure(0, 0), 0);
        DUE.is("to 30", x.sure(1, 0), 30);
        // Of the table that is told now: on this one's last plate nothing stays.
        Due.write(x, "plate a;drain a;");
        x.table();
        x.seen(0, 1, true);
        DUE.is("none of another table", x.fits(0), 0);
    }

    private static void fewestLeft() {
        // By a all 31 are left, by b 16 at the most.
        DUE.is("b", Due.told(HALF).ask(0, 0), 1);
        DUE.is("16 are left by it", Due.told(HALF).ask(1, 0), 16);
        // When b is known neither tells more.
        SandPlates x = Due.told(HALF);
        x.seen(1, 1, true);
        DUE.is("of like ones the first", x.ask(0, 0), 0);
        DUE.is("15 are left by either", x.ask(1, 0), 15);
    }

    // ---- what lies there, what was seen

    private static void firstAndLastLying() {
        SandPlates x = Due.told("plate a;plate b holds 1;plate c holds 1;drain a wide 2;drain b;drain c;");
        x.row();
        DUE.is("the first", x.lies(0), 1);
        DUE.is("the last", x.lies(1), 2);
        x = Due.told("plate a holds 99;drain a;");
        x.row();
        DUE.is("the sixtieth", x.lies(59), 0);
    }

    private static void noneLying() {
        DUE.is("a new object", new SandPlates().lies(0), -2);
        SandPlates x = Due.told("plate a holds 3;drain a;");
        DUE.is("a new table", x.lies(0), -2);
        x.row();
        Edges.only("lies", 0, 2, -2, x::lies);
        x = Due.told("plate a holds 99;drain a;");
        x.row();
        Edges.only("lies of 60", 0, 59, -2, x::lies);
        x.settle();
        x.row();
        DUE.is("none behind a row of none", x.lies(0), -2);
    }

    private static void seenNumbers() {
        SandPlates x = Due.told(HALF);
        DUE.is("the first", x.seen(0, 0, true), 0);
        DUE.is("the second", x.seen(1, 99, false), 1);
        x.untell(0);
        DUE.is("numbers are not given again", x.seen(0, 0, false), 2);
        Edges.only("seen many", 0, 99, -1, many -> Due.told(HALF).seen(0, many, true));
    }

    private static void seenThatCannotBe() {
        for (int many : new int[] {-1, 100, Edges.MIN, Edges.MAX}) {
            Twins.refused("seen(0, " + many + ", true)", x -> x.seen(0, many, true), -1);
            Twins.refused("seen(2, " + many + ", false)", x -> x.seen(2, many, false), -1);
        }
        for (int plate : new int[] {-1, 3, 4, 5, Edges.MIN, Edges.MAX}) {
            Twins.refused("seen(" + plate + ", 1, true)", x -> x.seen(plate, 1, true), -1);
        }
        Edges.onlyPlates("seen", (x, plate) -> x.seen(plate, 1, true));
        DUE.is("without plates", new SandPlates().seen(0, 0, true), -1);
    }

    private static void thirtyFirst() {
        Twins.refused("seen behind 30", () -> having(30), x -> x.seen(1, 1, true), -1);
        DUE.is("the thirtieth", having(29).seen(0, 1, false), 29);
        // Another table has its own thirty.
        SandPlates x = having(30);
        Due.write(x, HALF);
        x.table();
        DUE.is("the first of another table", x.seen(1, 1, true), 0);
    }

    private static void untoldAlready() {
        SandPlates x = Due.told(HALF);
        x.seen(1, 1, true);
        DUE.is("untell", x.untell(0), true);
        DUE.is("again", x.untell(0), false);
        x.later(5);
        DUE.is("again, later", x.untell(0), false);
        // The second call does not move the time at which it was untold.
        x = Due.told(HALF);
        x.seen(1, 1, true);
        x.later(2);
        x.untell(0);
        x.later(2);
        x.untell(0);
        DUE.is("at 1", x.fits(1), 15);
        DUE.is("at 2", x.fits(2), 31);
        Twins.refused("untell(1) again", t -> t.untell(1) ? 1 : 0, 0);
    }

    private static void untellNoneSuch() {
        DUE.is("nothing is seen", new SandPlates().untell(0), false);
        for (int seen : new int[] {-1, 3, 29, 30, 31, Edges.MIN, Edges.MAX}) {
            Twins.refused("untell(" + seen + ")", x -> x.untell(seen) ? 1 : 0, 0);
        }
        SandPlates full = having(30);
        DUE.is("the last of 30", full.untell(29), true);
        DUE.is("behind it", full.untell(30), false);
    }

    private static void noughtToThousandLater() {
        SandPlates x = new SandPlates();
        DUE.is("later(0)", x.later(0), 0);
        DUE.is("later(1)", x.later(1), 1);
        DUE.is("later(1000)", x.later(1000), 1001);
        DUE.is("later(0)", x.later(0), 1001);
        DUE.is("the time", x.about(9), 1001);
    }

    private static void laterByAnotherNumber() {
        for (int by : new int[] {-1, 1001, -1000, 2000, Edges.MIN, Edges.MAX}) {
            Twins.refused("later(" + by + ")", x -> x.later(by), -1);
        }
    }

    private static SandPlates at(int time) {
        SandPlates x = Twins.rich();
        while (x.about(9) < time) {
            x.later(Math.min(1000, time - x.about(9)));
        }
        return x;
    }

    private static void aboveTheLastTime() {
        DUE.is("to 100,000", at(99000).later(1000), 100000);
        Twins.refused("1000 behind 99,001", () -> at(99001), x -> x.later(1000), -1);
        Twins.refused("1 behind 100,000", () -> at(100000), x -> x.later(1), -1);
        DUE.is("1 behind 99,999", at(99999).later(1), 100000);
        DUE.is("0 behind 100,000", at(100000).later(0), 100000);
        // What is told at the last time is known then.
        SandPlates x = at(100000);
        int before = x.fits(100000);
        x.seen(2, 99, true);
        DUE.is("fits at it", x.fits(100000), 0);
        DUE.is("fits ahead of it", x.fits(99999), before);
    }

    // ---- what is known

    private static void noneOrAllFit() {
        SandPlates x = Due.told(HALF);
        DUE.is("all", x.fits(0), 31);
        x.seen(0, 99, true);
        DUE.is("none", x.fits(0), 0);
        x.untell(0);
        x.seen(1, 1, true);
        x.seen(1, 1, false);
        DUE.is("both is none", x.fits(0), 0);
    }

    /** Where so many on the last plate come to, told plate by plate: at least so many, and not one more. */
    private static SandPlates toldAll(int many) {
        SandPlates was = Due.told(String.format(APART, many));
        SandPlates x = Due.told(String.format(APART, 0));
        for (int i = 0; i < 5; i++) {
            x.seen(i, was.rest(i), true);
            x.seen(i, was.rest(i) + 1, false);
        }
        return x;
    }

    private static void oneAloneFits() {
        for (int many : new int[] {0, 1, 17, 29, 30}) {
            SandPlates x = toldAll(many);
            DUE.is("fits by where " + many + " come to", x.fits(0), 1);
            DUE.is("the least", x.sure(0, 0), many);
            DUE.is("the greatest", x.sure(1, 0), many);
            DUE.is("the first is as good as any to ask", x.ask(0, 0), 0);
            DUE.is("it is left", x.ask(1, 0), 1);
        }
        DUE.is("31 can't have been", toldAll(31).fits(0), 0);
    }

    private static void leastAndGreatest() {
        SandPlates x = Due.told(HALF);
        DUE.is("the least of all", x.sure(0, 0), 0);
        DUE.is("the greatest of all", x.sure(1, 0), 30);
        x.seen(1, 1, true);
        DUE.is("the least odd one", x.sure(0, 0), 1);
        DUE.is("the greatest odd one", x.sure(1, 0), 29);
    }

    private static void noneIsSure() {
        SandPlates x = Due.told(HALF);
        x.later(1);
        x.seen(1, 2, true);
        DUE.is("the least", x.sure(0, 1), -1);
        DUE.is("the greatest", x.sure(1, 1), -1);
        DUE.is("the least ahead of it", x.sure(0, 0), 0);
        DUE.is("the greatest ahead of it", x.sure(1, 0), 30);
        DUE.is("without plates", new SandPlates().sure(0, 0), -1);
        DUE.is("without plates", new SandPlates().sure(1, 0), -1);
        // Plates of an earlier table don't fit.
        Due.write(x, "");
        x.table();
        DUE.is("without plates", x.sure(0, 0), -1);
    }

    private static void firstAndLastToAsk() {
        SandPlates x = Due.told("plate a;drain a wide 2;");
        DUE.is("one plate", x.ask(0, 0), 0);
        DUE.is("16 are left", x.ask(1, 0), 16);
        x = Due.told("plate a;plate b;plate c;plate d;plate e;drain a;drain b;drain c;drain d;drain e wide 2;");
        DUE.is("the last of five", x.ask(0, 0), 4);
        x = Due.told("plate a;drain a;");
        DUE.is("nothing is learnt", x.ask(1, 0), 31);
        // The widest brim: 31 over 0 .. 9 on e alone.
        x = Due.told("plate a;plate b;plate c;plate d;plate e;drain e wide 2;"
            + "chute a e wide 2;chute b e wide 2;chute c e wide 2;chute d e wide 2;");
        DUE.is("brim of e", x.plate(4, 1), 10);
        x.seen(0, 1, false);
        DUE.is("all fit", x.fits(0), 31);
        DUE.is("e tells", x.ask(0, 0), 4);
        // From 8 on all even ones end at 8, all odd ones at 9: 8, 10 .. 30 are the most alike.
        DUE.is("12 are left", x.ask(1, 0), 12);
        x.seen(4, 9, true);
        DUE.is("9, 11 .. 29", x.fits(0), 11);
        DUE.is("11 are left", x.ask(1, 0), 11);
        DUE.is("by each of them", x.ask(0, 0), 0);
    }

    private static void noneToAsk() {
        SandPlates x = Due.told(HALF);
        x.later(1);
        x.seen(1, 2, true);
        DUE.is("the plate", x.ask(0, 1), -1);
        DUE.is("how many", x.ask(1, 1), -1);
        DUE.is("the plate ahead of it", x.ask(0, 0), 1);
        DUE.is("without plates", new SandPlates().ask(0, 0), -1);
        DUE.is("without plates", new SandPlates().ask(1, 0), -1);
    }

    // ---- images

    private static void threeBoxes() {
        SandPlates x = Due.told("plate a holds 4;drain a wide 2;");
        for (int box = 0; box < 3; box++) {
            DUE.is("image(" + box + ")", x.image(box), 4 + box);
            x.drop(0, 1);
        }
        for (int box = 2; box >= 0; box--) {
            DUE.is("back(" + box + ")", x.back(box), 4 + box);
        }
        SandPlates empty = new SandPlates();
        DUE.is("without plates", empty.image(0), 0);
        DUE.is("without plates", empty.back(0), 0);
        // A box that is kept in again has the later one.
        x.sweep(0);
        DUE.is("image(1)", x.image(1), 0);
        x.drop(0, 9);
        DUE.is("back(1)", x.back(1), 0);
        DUE.is("back(2) still", x.back(2), 6);
        // An image is no act, and takes back nothing.
        x.drop(0, 1);
        x.undo();
        x.image(0);
        DUE.is("redo behind an image", x.redo(), true);
    }

    private static void noSuchBox() {
        for (int box : new int[] {-1, 3, 4, -8, Edges.MIN, Edges.MAX, 1 << 29}) {
            Twins.refused("image(" + box + ")", x -> x.image(box), -1);
        }
    }

    private static void asItWasKept() {
        SandPlates x = Due.told("plate a holds 4;plate b;drain a;chute a b;falls 1;luck 40;draw 8;");
        x.day();
        int a = x.plate(0, 0);
        int b = x.plate(1, 0);
        int drain = x.about(3);
        int seed = x.about(5);
        x.image(2);
        x.day();
        x.drop(1, 20);
        x.settle();
        DUE.is("another drain", x.about(3) != drain, true);
        DUE.is("back", x.back(2), a + b);
        Edges.heap("as kept", x, a, b);
        DUE.is("the drain", x.about(3), drain);
        DUE.is("the day", x.about(4), 1);
        DUE.is("the seed", x.about(5), seed);
        // It stays kept.
        x.sweep(0);
        x.drop(1, 3);
        DUE.is("back again", x.back(2), a + b);
    }

    private static void noActsBehindBack() {
        SandPlates x = Twins.rich();
        DUE.is("acts ahead", x.about(6), 2);
        DUE.is("undone ahead", x.about(7), 2);
        x.back(0);
        DUE.is("acts", x.about(6), 0);
        DUE.is("undone", x.about(7), 0);
        DUE.is("undo", x.undo(), false);
        DUE.is("redo", x.redo(), false);
        int grains = x.plate(0, 0);
        x.drop(0, 3);
        DUE.is("the first act behind it", x.undo(), true);
        DUE.is("back to what was kept", x.plate(0, 0), grains);
        DUE.is("no more", x.undo(), false);
        // What is seen, the time, and what lies there stay.
        DUE.is("seen", x.about(8), 3);
        DUE.is("the time", x.about(9), 6);
        DUE.is("numbers", x.about(12), Twins.rich().about(12));
    }

    private static void backToNothing() {
        DUE.is("a new object", new SandPlates().back(0), -1);
        for (int box : new int[] {1, -1, 3, 4, -8, Edges.MIN, Edges.MAX, 1 << 29}) {
            Twins.refused("back(" + box + ")", x -> x.back(box), -1);
        }
    }

    // ---- what all is about

    private static void platesAndChutes() {
        DUE.is("no plates", new SandPlates().about(0), 0);
        DUE.is("no chutes", new SandPlates().about(1), 0);
        SandPlates x = Due.told("plate a;drain a wide 2;");
        DUE.is("one plate", x.about(0), 1);
        DUE.is("the drain's chute is one, however wide", x.about(1), 1);
        StringBuilder text = new StringBuilder();
        for (char c = 'a'; c <= 'e'; c++) {
            text.append("plate ").append(c).append(";drain ").append(c).append(";");
            for (char d = 'a'; d < c; d++) {
                text.append("chute ").append(d).append(' ').append(c).append(" wide 2;");
            }
        }
        x = Due.told(text.toString());
        DUE.is("five plates", x.about(0), 5);
        DUE.is("fifteen chutes", x.about(1), 15);
    }

    private static void levelDrainDaySeed() {
        SandPlates x = Due.told("plate a holds 99;plate b holds 99;drain a wide 2;drain b wide 2;draw 999;");
        DUE.is("level", x.about(2), 198);
        DUE.is("drain", x.about(3), 0);
        DUE.is("day", x.about(4), 0);
        DUE.is("seed", x.about(5), 999);
        x.day();
        DUE.is("level", x.about(2), 2);
        DUE.is("drain", x.about(3), 196);
        DUE.is("day", x.about(4), 1);
        DUE.is("seed", x.about(5), 934);
        x.sweep(0);
        x.sweep(1);
        DUE.is("level", x.about(2), 0);
    }

    private static void actsKept() {
        SandPlates x = Due.told("plate a;drain a wide 2;");
        DUE.is("none", x.about(6), 0);
        DUE.is("none", x.about(7), 0);
        for (int i = 1; i <= 45; i++) {
            x.drop(0, 1);
            DUE.is("behind " + i, x.about(6), Math.min(40, i));
        }
        x.undo();
        DUE.is("39", x.about(6), 39);
        DUE.is("1", x.about(7), 1);
        x.redo();
        DUE.is("40", x.about(6), 40);
        DUE.is("0", x.about(7), 0);
    }

    private static void seenAndTime() {
        SandPlates x = having(30);
        DUE.is("30", x.about(8), 30);
        x.later(7);
        x.untell(3);
        DUE.is("seen stays seen", x.about(8), 30);
        DUE.is("the time", x.about(9), 7);
        DUE.is("none", Due.told(HALF).about(8), 0);
    }

    private static void countsOfText() {
        SandPlates x = Due.told("plate a holds 2;drain a;falls (1)+grains;luck 100;");
        DUE.is("bytes", x.about(10), 0);
        DUE.is("units", x.about(11), 3);
        DUE.is("numbers", x.about(12), 0);
        DUE.is("luck", x.about(13), 100);
        x.feed(0, 0, 0, 0, 0);
        x.end(19);
        x.row();
        DUE.is("bytes", x.about(10), 19);
        DUE.is("numbers", x.about(12), 2);
        x.end(0);
        DUE.is("bytes", x.about(10), 0);
    }

    private static void settledOrNot() {
        DUE.is("without plates", new SandPlates().about(14), 1);
        SandPlates x = Due.told("plate a holds 1;drain a wide 2;");
        DUE.is("one below the brim", x.about(14), 1);
        x.drop(0, 1);
        DUE.is("at the brim", x.about(14), 0);
        x.topple(0);
        DUE.is("toppled", x.about(14), 1);
    }
}
