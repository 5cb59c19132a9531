/** The boundary cases of what would topple by what is now, of heaps that come again, and of promises 17 to 30 and 44. */
final class AheadEdges {
    private static final Due DUE = Edges.DUE;
    /** Two plates and the drain, each joined to each. */
    private static final String RING = "plate a holds %d;plate b holds %d;chute a b;drain a;drain b;";
    private static final String WIDEST = widest();

    private AheadEdges() {
    }

    static void all(Edges e) {
        terms(e);
        settling(e);
        sliding(e);
        again(e);
    }

    private static void terms(Edges e) {
        e.of(0, "nothing is done;", AheadEdges::nothingIsDone);
        e.of(0, "no luck, if not told otherwise;", AheadEdges::noLuckAhead);
        e.of(0, "else nothing is kept to 999 where it is added.", AheadEdges::notKeptTo999);
        e.of(0, "ROW: one by one, the PLATE of the least number that can TOPPLE, till none can.", AheadEdges::leastNumberFirst);
        e.of(0, "ROUNDS: in each of them all PLATES that can TOPPLE do once, all at once;", AheadEdges::allAtOnce);
        e.of(0, "SLIDE of a PLATE: what TOPPLES, if one grain is dropped on it in REST and all SETTLES.",
            AheadEdges::slideInRest);
        e.of(0, "a PLATE burns if in REST there are as many grains on it, or more, as its BRIM is less how wide it is joined",
            AheadEdges::enoughToBurn);
        e.of(0, "one after the other, the least number first that can.", AheadEdges::leastNumberBurnsFirst);
        e.of(0, "A SETTLED HEAP COMES AGAIN if by it all PLATES burn so.", AheadEdges::allMustBurn);
        e.of(0, "MEND: the fewest grains to be put on PLATES in REST so that it is still SETTLED and COMES AGAIN;",
            AheadEdges::fewestToMend);
        e.of(0, "of like ones the first (PLATE by PLATE: the fewest).", AheadEdges::firstToMend);
    }

    private static void settling(Edges e) {
        e.of(17, "PLATES that can TOPPLE now, as bits.", AheadEdges::overBits);
        e.of(18, "NONE if there is none such.", () -> Edges.onlyPlates("rest", SandPlates::rest));
        e.of(18, "Grains on a PLATE in REST;", AheadEdges::restOfSettled);
        e.of(19, "NONE if there is none such.", () -> Edges.onlyPlates("often", SandPlates::often));
        e.of(19, "How often a PLATE would TOPPLE, if all SETTLED now;", AheadEdges::oftenNever);
        e.of(20, "How many grains would come into the DRAIN then.", AheadEdges::nothingSpilt);
        e.of(21, "ROW: how many TOPPLINGS.", AheadEdges::rowOfNone);
        e.of(21, "The first 60 of them lie there then.", AheadEdges::firstSixty);
        e.of(22, "ROUNDS.", AheadEdges::noRounds);
        e.of(44, "if n more (0 .. 20) were on each PLATE and all SETTLED;", AheadEdges::lawNumbers);
        e.of(44, "NONE for another n.", () -> {
            Edges.only("law", 0, 20, -1, n -> Due.told("plate a;drain a;").law(n));
            Edges.only("law without plates", 0, 20, -1, n -> new SandPlates().law(n));
        });
    }

    private static void sliding(Edges e) {
        e.of(23, "SLIDE what 0: how many TOPPLINGS, 1: which PLATES, as bits, 2: how many grains into the DRAIN;",
            AheadEdges::noSlide);
        e.of(23, "NONE if there is none such,", () -> {
            for (int what = 0; what <= 2; what++) {
                int which = what;
                Edges.onlyPlates("slide by " + what, (x, plate) -> x.slide(plate, which));
            }
        });
        e.of(23, "or for another what.", () -> Edges.only("slide what", 0, 2, -1,
            what -> Due.told("plate a;drain a;").slide(0, what)));
        e.of(24, "The PLATE of the most TOPPLINGS in its SLIDE;", AheadEdges::lastIsSteepest);
        e.of(24, "of like ones the first;", AheadEdges::firstOfLikeSlides);
        e.of(24, "NONE without PLATES.", () -> DUE.is("steepest", new SandPlates().steepest(), -1));
        e.of(25, "PLATES in whose SLIDE nothing TOPPLES, as bits.", AheadEdges::quietPlates);
    }

    private static void again(Edges e) {
        e.of(26, "how many PLATES burn. They lie there then, in order.", AheadEdges::noneOrAllBurn);
        e.of(27, "How many HEAPS that COME AGAIN there are", AheadEdges::fewestAndMost);
        e.of(27, "(1 without PLATES).", () -> {
            DUE.is("a new object", new SandPlates().many(), 1);
            DUE.is("a table without them", Due.told("luck 5;").many(), 1);
            SandPlates x = Due.told(WIDEST);
            x.table();
            DUE.is("behind another table", x.many(), 1);
        });
        e.of(28, "How many of them are of a LEVEL;", AheadEdges::atLevels);
        e.of(28, "NONE for one below 0.", () -> {
            for (int grains : new int[] {-1, -2, -45, -46, Edges.MIN}) {
                DUE.is("level(" + grains + ")", Due.told(WIDEST).level(grains), -1);
                DUE.is("level(" + grains + ") without plates", new SandPlates().level(grains), -1);
            }
        });
        e.of(29, "The least LEVEL of them (what 0), the greatest (1);", AheadEdges::leastAndGreatestLevel);
        e.of(29, "NONE for another what.", () -> {
            Edges.only("levels", 0, 1, -1, what -> Due.told(WIDEST).levels(what));
            Edges.only("levels without plates", 0, 1, -1, what -> new SandPlates().levels(what));
        });
        e.of(30, "MEND: how many grains.", AheadEdges::nothingToMend);
        e.of(30, "How many on each PLATE lie there then.", AheadEdges::mendLies);
    }

    private static String widest() {
        StringBuilder text = new StringBuilder();
        for (char c = 'a'; c <= 'e'; c++) {
            text.append("plate ").append(c).append(";drain ").append(c).append(" wide 2;");
            for (char d = 'a'; d < c; d++) {
                text.append("chute ").append(c).append(' ').append(d).append(" wide 2;");
            }
        }
        return text.toString();
    }

    private static SandPlates ring(int a, int b) {
        return Due.told(String.format(RING, a, b));
    }

    // ---- terms

    private static void nothingIsDone() {
        Twins.asked("over()", SandPlates::over);
        Twins.asked("rest(0)", x -> x.rest(0));
        Twins.asked("often(0)", x -> x.often(0));
        Twins.asked("spilt()", SandPlates::spilt);
        Twins.laid("row()", SandPlates::row);
        Twins.asked("rounds()", SandPlates::rounds);
        Twins.asked("slide(0, 0)", x -> x.slide(0, 0));
        Twins.asked("steepest()", SandPlates::steepest);
        Twins.asked("quiet()", SandPlates::quiet);
        Twins.laid("fire()", SandPlates::fire);
        Twins.asked("many()", SandPlates::many);
        Twins.asked("level(3)", x -> x.level(3));
        Twins.asked("levels(0)", x -> x.levels(0));
        Twins.laid("mend()", SandPlates::mend);
        Twins.asked("nought(0)", x -> x.nought(0));
        Twins.asked("own(0)", x -> x.own(0));
        Twins.asked("bare(0)", x -> x.bare(0));
        Twins.laid("sum(0)", x -> x.sum(0));
        Twins.asked("one(0)", x -> x.one(0));
        Twins.asked("cycle()", SandPlates::cycle);
        Twins.asked("wheel(0)", x -> x.wheel(0));
        Twins.asked("credit()", SandPlates::credit);
        Twins.asked("rank(5)", x -> x.rank(5));
        Twins.asked("mean(0, 1, 0)", x -> x.mean(0, 1, 0));
        Twins.asked("parts(0)", x -> x.parts(0));
        Twins.asked("like(0)", x -> x.like(0));
        Twins.laid("duel(0, 1)", x -> x.duel(0, 1));
        Twins.asked("law(20)", x -> x.law(20));
        Twins.asked("odds(4, 0)", x -> x.odds(4, 0));
        Twins.asked("lies(0)", x -> x.lies(0));
        Twins.asked("fits(5)", x -> x.fits(5));
        Twins.asked("sure(0, 5)", x -> x.sure(0, 5));
        Twins.asked("ask(0, 5)", x -> x.ask(0, 5));
        Twins.asked("about(2)", x -> x.about(2));
        Twins.asked("will(0, 30, 1)", x -> x.will(0, 30, 1));
    }

    private static void noLuckAhead() {
        SandPlates x = Due.told("plate a holds 1;drain a wide 2;luck 100;");
        DUE.is("rest", x.rest(0), 1);
        DUE.is("spilt", x.spilt(), 0);
        DUE.is("law", x.law(0), 0);
        DUE.is("will", x.will(0, 5, 0), 1);
        DUE.is("row", x.row(), 0);
    }

    private static void notKeptTo999() {
        SandPlates x = Due.told("plate a holds 19;drain a;");
        for (int i = 0; i < 49; i++) {
            x.drop(0, 20);
        }
        DUE.is("999 on a", x.plate(0, 0), 999);
        DUE.is("law", x.law(20), 1019);
        x.image(0);
        SandPlates two = Due.told("plate a holds 19;drain a wide 2;");
        for (int i = 0; i < 49; i++) {
            two.drop(0, 20);
        }
        two.image(1);
        // 1998 leave nothing, 999 would leave 1.
        DUE.is("sum", two.sum(1), 0);
        // b gives a so many that it has more than 999 before it topples.
        x = Due.told("plate a holds 19;plate b holds 99;chute a b wide 2;drain a;");
        for (int i = 0; i < 49; i++) {
            x.drop(0, 20);
        }
        x.topple(1);
        DUE.is("1001 on a", x.plate(0, 0), 1001);
        DUE.is("rest and spilt", x.rest(0) + x.rest(1) + x.spilt(), 999 + 99);
        DUE.is("slide keeps them", x.slide(0, 2) >= 0, true);
    }

    private static void leastNumberFirst() {
        SandPlates x = Due.told("plate a;plate b holds 4;chute a b;drain b;");
        DUE.is("row", x.row(), 6);
        Edges.lie(x, 1, 0, 1, 0, 1, 0);
        x = Due.told("plate a holds 1;plate b holds 1;plate c holds 1;drain a;drain b;drain c;");
        DUE.is("row", x.row(), 3);
        Edges.lie(x, 0, 1, 2);
        // By hand, one by one.
        String text = "plate a holds 7;plate b holds 9;plate c holds 9;plate d holds 9;"
            + "chute a b;chute b c wide 2;chute c d;drain d;";
        x = Due.told(text);
        int row = x.row();
        DUE.is("more than 60 topplings", row > 60, true);
        SandPlates hand = Due.told(text);
        for (int i = 0; i < 60; i++) {
            int least = Integer.numberOfTrailingZeros(hand.over());
            DUE.is("lies(" + i + ")", x.lies(i), least);
            hand.topple(least);
        }
        DUE.is("the rest of them", hand.row(), row - 60);
    }

    private static void allAtOnce() {
        DUE.is("both in one round", ring(2, 2).rounds(), 1);
        DUE.is("b behind a", ring(2, 1).rounds(), 2);
        DUE.is("a behind b", ring(1, 2).rounds(), 2);
        DUE.is("once in a round, though it could twice", Due.told("plate a holds 9;drain a wide 2;").rounds(), 4);
        // A grain that comes in the same round is not there when it begins: 1 2 0, then 2 0 1, then 0 1 1.
        DUE.is("a behind b", Due.told("plate a holds 1;plate b holds 2;plate c;chute a b;chute b c;drain a;drain c;").rounds(),
            2);
    }

    private static void slideInRest() {
        SandPlates x = ring(2, 1);
        // In rest 1 0: one more on a topples it to 0 1.
        DUE.is("slide(0, 0)", x.slide(0, 0), 1);
        DUE.is("slide(0, 1)", x.slide(0, 1), 1);
        DUE.is("slide(0, 2)", x.slide(0, 2), 1);
        DUE.is("slide(1, 0)", x.slide(1, 0), 0);
        // In 1 1 one more on a: a, b, 1 0.
        x = ring(1, 1);
        DUE.is("slide(0, 0)", x.slide(0, 0), 2);
        DUE.is("slide(0, 1)", x.slide(0, 1), 3);
        DUE.is("slide(0, 2)", x.slide(0, 2), 2);
    }

    private static void enoughToBurn() {
        // BRIM 3, 2 of them to the drain: one grain is enough, none is not.
        String text = "plate a holds %d;plate b;drain a wide 2;chute a b;";
        int[] burn = {0, 2, 2};
        for (int holds = 0; holds <= 2; holds++) {
            DUE.is("fire with " + holds, Due.told(String.format(text, holds)).fire(), burn[holds]);
        }
        // In rest: 3 0 settles to 0 1, which b gives back: 1 0.
        DUE.is("fire in rest", Due.told(String.format(text, 3)).fire(), 2);
        // Not joined to the drain, it needs what burns: 2 of 3 by a, so 1 grain.
        text = "plate a holds 2;plate b holds %d;plate c;drain a;chute a b wide 2;chute b c;";
        DUE.is("none on b", Due.told(String.format(text, 0)).fire(), 1);
        DUE.is("one on b", Due.told(String.format(text, 1)).fire(), 3);
        DUE.is("more on b", Due.told(String.format(text, 2)).fire(), 3);
        // A plate with no grains burns when all its neighbours do.
        SandPlates x = Due.told("plate a holds 1;plate b;chute a b;drain a;");
        DUE.is("fire", x.fire(), 2);
        Edges.lie(x, 0, 1);
    }

    private static void leastNumberBurnsFirst() {
        SandPlates x = ring(1, 1);
        DUE.is("both can", x.fire(), 2);
        Edges.lie(x, 0, 1);
        x = ring(0, 1);
        DUE.is("b, then a", x.fire(), 2);
        Edges.lie(x, 1, 0);
        // Behind b a can burn, too, and comes ahead of c and d, which could from the start.
        x = Due.told("plate a;plate b holds 1;plate c holds 1;plate d holds 1;chute a b;drain b;drain c wide 2;drain d wide 2;");
        DUE.is("all", x.fire(), 4);
        Edges.lie(x, 1, 0, 2, 3);
    }

    private static void allMustBurn() {
        DUE.is("0 0", ring(0, 0).mend(), 1);
        DUE.is("1 0 comes again", ring(1, 0).mend(), 0);
        DUE.is("0 1 comes again", ring(0, 1).mend(), 0);
        DUE.is("1 1 comes again", ring(1, 1).mend(), 0);
        // One burns, the other does not.
        SandPlates x = Due.told("plate a holds 1;plate b;drain a wide 2;drain b wide 2;");
        DUE.is("two chutes to the drain, none between", x.fire(), 2);
        x = Due.told("plate a holds 1;plate b;plate c;chute a b;chute b c;drain a;drain c;");
        DUE.is("one burns", x.fire(), 1);
        DUE.is("so it does not come again", x.mend(), 1);
    }

    private static void fewestToMend() {
        SandPlates x = Due.told("plate a;plate b;chute a b;drain a wide 2;");
        // b could take 1 more only by toppling, so a must take it.
        DUE.is("mend", x.mend(), 1);
        Edges.lie(x, 1, 0);
        DUE.is("in rest", ring(2, 1).mend(), 0);
        x = Due.told(WIDEST);
        DUE.is("mend the widest", x.mend(), 20);
        Edges.lie(x, 0, 2, 4, 6, 8);
    }

    private static void firstToMend() {
        SandPlates x = ring(0, 0);
        DUE.is("1 0 or 0 1", x.mend(), 1);
        Edges.lie(x, 0, 1);
        // 1 1 0, 1 0 1 and 0 1 1 are as few: the fewest on a first, then on b.
        x = Due.told("plate a;plate b;plate c;chute a b;chute b c;drain a;drain c;");
        DUE.is("mend", x.mend(), 2);
        Edges.lie(x, 0, 1, 1);
    }

    // ---- settling

    private static void overBits() {
        DUE.is("without plates", new SandPlates().over(), 0);
        DUE.is("none", ring(1, 1).over(), 0);
        DUE.is("at the brim", ring(2, 1).over(), 1);
        DUE.is("above it", ring(1, 9).over(), 2);
        DUE.is("all five", Due.told("plate a holds 1;plate b holds 1;plate c holds 1;plate d holds 1;plate e holds 1;"
            + "drain a;drain b;drain c;drain d;drain e;").over(), 31);
    }

    private static void restOfSettled() {
        SandPlates x = ring(1, 0);
        DUE.is("settled already", x.rest(0), 1);
        DUE.is("settled already", x.rest(1), 0);
        DUE.is("99 by 2", Due.told("plate a holds 99;drain a wide 2;").rest(0), 1);
        DUE.is("98 by 2", Due.told("plate a holds 98;drain a wide 2;").rest(0), 0);
    }

    private static void oftenNever() {
        SandPlates x = ring(1, 1);
        DUE.is("never", x.often(0), 0);
        x = ring(3, 0);
        DUE.is("once", x.often(0), 1);
        DUE.is("the other never", x.often(1), 0);
        DUE.is("99 times", Due.told("plate a holds 99;drain a;").often(0), 99);
    }

    private static void nothingSpilt() {
        DUE.is("without plates", new SandPlates().spilt(), 0);
        DUE.is("settled", ring(1, 1).spilt(), 0);
        DUE.is("one", ring(2, 0).spilt(), 1);
        SandPlates x = Due.told("plate a holds 1;plate b;chute a b;drain b;");
        DUE.is("what topples without the drain", x.spilt(), 0);
        DUE.is("it does topple", x.row(), 1);
        // What the drain has already is not spilt again.
        x = Due.told("plate a holds 5;drain a;");
        x.settle();
        x.drop(0, 2);
        DUE.is("two more", x.spilt(), 2);
    }

    private static void rowOfNone() {
        SandPlates x = Due.told("plate a holds 2;drain a;");
        DUE.is("two", x.row(), 2);
        Edges.lie(x, 0, 0);
        x.settle();
        DUE.is("none", x.row(), 0);
        Edges.lie(x);
        DUE.is("without plates", new SandPlates().row(), 0);
    }

    private static void firstSixty() {
        for (int many : new int[] {1, 59, 60, 61, 99}) {
            SandPlates x = Due.told("plate a holds " + many + ";drain a;");
            DUE.is("row of " + many, x.row(), many);
            DUE.is("lie there of " + many, x.about(12), Math.min(60, many));
            DUE.is("the last of " + many, x.lies(Math.min(60, many) - 1), 0);
            DUE.is("behind the last of " + many, x.lies(Math.min(60, many)), -2);
        }
    }

    private static void noRounds() {
        DUE.is("without plates", new SandPlates().rounds(), 0);
        DUE.is("settled", ring(1, 1).rounds(), 0);
        DUE.is("one", ring(2, 0).rounds(), 1);
        DUE.is("99", Due.told("plate a holds 99;drain a;").rounds(), 99);
    }

    private static void lawNumbers() {
        SandPlates x = Due.told("plate a holds 1;plate b;drain a wide 2;drain b;");
        DUE.is("law(0)", x.law(0), 0);
        DUE.is("law(1)", x.law(1), 3);
        DUE.is("law(20)", x.law(20), 40);
        DUE.is("without plates", new SandPlates().law(20), 0);
    }

    // ---- sliding

    private static void noSlide() {
        SandPlates x = ring(0, 0);
        for (int what = 0; what <= 2; what++) {
            DUE.is("slide(0, " + what + ")", x.slide(0, what), 0);
        }
        // All topple, the drain has its share: 1 1 and one more.
        x = ring(1, 1);
        DUE.is("topplings", x.slide(1, 0), 2);
        DUE.is("plates", x.slide(1, 1), 3);
        DUE.is("grains", x.slide(1, 2), 2);
        x = Due.told("plate a;plate b;chute a b;drain b wide 2;");
        DUE.is("a topples alone", x.slide(0, 1), 1);
        DUE.is("nothing into the drain", x.slide(0, 2), 0);
    }

    private static void lastIsSteepest() {
        SandPlates x = Due.told("plate a;plate b;plate c;plate d;plate e holds 1;"
            + "drain a wide 2;drain b wide 2;drain c wide 2;drain d wide 2;drain e wide 2;");
        DUE.is("the last of five", x.steepest(), 4);
        DUE.is("one plate", Due.told("plate a;drain a;").steepest(), 0);
        DUE.is("the middle one", Due.told("plate a;plate b holds 1;plate c;drain a wide 2;drain b wide 2;drain c wide 2;")
            .steepest(), 1);
    }

    private static void firstOfLikeSlides() {
        DUE.is("no slide at all", ring(0, 0).steepest(), 0);
        DUE.is("both alike", ring(1, 1).steepest(), 0);
        DUE.is("the second and the third",
            Due.told("plate a;plate b holds 1;plate c holds 1;drain a wide 2;drain b wide 2;drain c wide 2;").steepest(), 1);
    }

    private static void quietPlates() {
        DUE.is("without plates", new SandPlates().quiet(), 0);
        DUE.is("all", ring(0, 0).quiet(), 3);
        DUE.is("one", ring(1, 0).quiet(), 2);
        DUE.is("none", ring(1, 1).quiet(), 0);
        // In rest: 2 1 comes to 1 0.
        DUE.is("in rest", ring(2, 1).quiet(), 2);
        DUE.is("all five", Due.told(WIDEST).quiet(), 31);
    }

    // ---- heaps that come again

    private static void noneOrAllBurn() {
        SandPlates x = ring(0, 0);
        x.mend();
        DUE.is("numbers lie there ahead", x.about(12), 2);
        DUE.is("none", x.fire(), 0);
        Edges.lie(x);
        DUE.is("without plates", new SandPlates().fire(), 0);
        x = Due.told("plate a;plate b;plate c;plate d;plate e;drain a;drain b;drain c;drain d;drain e;");
        DUE.is("all five", x.fire(), 5);
        Edges.lie(x, 0, 1, 2, 3, 4);
        x = Due.told("plate a;plate b holds 1;plate c holds 1;plate d holds 1;plate e holds 1;"
            + "chute a b;chute b c;chute c d;chute d e;drain e;");
        DUE.is("from the last on", x.fire(), 5);
        Edges.lie(x, 4, 3, 2, 1, 0);
    }

    private static void fewestAndMost() {
        DUE.is("a path", Due.told("plate a;plate b;plate c;plate d;plate e;drain a;chute a b;chute b c;chute c d;chute d e;")
            .many(), 1);
        DUE.is("the widest", Due.told(WIDEST).many(), 41472);
        DUE.is("five apart", Due.told("plate a;plate b;plate c;plate d;plate e;drain a wide 2;drain b wide 2;drain c wide 2;"
            + "drain d wide 2;drain e wide 2;").many(), 32);
    }

    private static void atLevels() {
        SandPlates x = Due.told(WIDEST);
        int together = 0;
        for (int grains = 0; grains <= 50; grains++) {
            together += x.level(grains);
        }
        DUE.is("all levels together", together, 41472);
        DUE.is("below the least", x.level(19), 0);
        DUE.is("the least", x.level(20), 120);
        DUE.is("the greatest", x.level(45), 1);
        DUE.is("above the greatest", x.level(46), 0);
        DUE.is("far above", x.level(Edges.MAX), 0);
        DUE.is("0 without plates", new SandPlates().level(0), 1);
        DUE.is("1 without plates", new SandPlates().level(1), 0);
        // Another table's levels are its own.
        Due.write(x, String.format(RING, 0, 0));
        x.table();
        int[] levels = {0, 2, 1, 0};
        for (int grains = 0; grains < levels.length; grains++) {
            DUE.is("level(" + grains + ") of a ring", x.level(grains), levels[grains]);
        }
        Due.write(x, "plate a;drain a wide 2;");
        x.table();
        int[] next = {1, 1, 0, 0};
        for (int grains = 0; grains < next.length; grains++) {
            DUE.is("level(" + grains + ") of one plate", x.level(grains), next[grains]);
        }
        Due.write(x, "");
        x.table();
        DUE.is("level(1) without plates", x.level(1), 0);
    }

    private static void leastAndGreatestLevel() {
        DUE.is("the least without plates", new SandPlates().levels(0), 0);
        DUE.is("the greatest without plates", new SandPlates().levels(1), 0);
        DUE.is("the least of a ring", ring(0, 0).levels(0), 1);
        DUE.is("the greatest of a ring", ring(0, 0).levels(1), 2);
        DUE.is("the least of the widest", Due.told(WIDEST).levels(0), 20);
        DUE.is("the greatest of the widest", Due.told(WIDEST).levels(1), 45);
        String path = "plate a;plate b;plate c;drain a;chute a b;chute b c;";
        DUE.is("one level alone", Due.told(path).levels(0), 2);
        DUE.is("one level alone", Due.told(path).levels(1), 2);
        String apart = "plate a;plate b;drain a wide 2;drain b;";
        DUE.is("no chutes between", Due.told(apart).levels(0), 0);
        DUE.is("no chutes between", Due.told(apart).levels(1), 1);
    }

    private static void nothingToMend() {
        DUE.is("without plates", new SandPlates().mend(), 0);
        DUE.is("it comes again", ring(1, 1).mend(), 0);
        DUE.is("one grain", ring(0, 0).mend(), 1);
        DUE.is("no grains needed", Due.told("plate a;drain a wide 2;").mend(), 0);
    }

    private static void mendLies() {
        SandPlates x = new SandPlates();
        x.mend();
        Edges.lie(x);
        x = ring(1, 1);
        x.mend();
        Edges.lie(x, 0, 0);
        x.fire();
        x.mend();
        Edges.lie(x, 0, 0);
        x = Due.told("plate a;plate b;plate c;plate d;plate e;drain e;chute a b;chute b c;chute c d;chute d e;");
        DUE.is("four of five", x.mend(), 4);
        Edges.lie(x, 0, 1, 1, 1, 1);
    }
}
