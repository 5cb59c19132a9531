/** The boundary cases of heaps that are one by lending, of fractions, parts, duels, and of promises 31 to 43 and 45. */
final class LendEdges {
    private static final Due DUE = Edges.DUE;
    /** Two plates and the drain, each joined to each. */
    private static final String RING = "plate a holds %d;plate b holds %d;chute a b;drain a;drain b;";
    private static final String PATH = "plate a;plate b;plate c;drain a;chute a b;chute b c;";
    /** Of 2001 heaps that come again, and of 2000 turns: looked for by program. */
    private static final String TURNS_2001 = "plate a;plate b;plate c;plate d;plate e;chute b a;chute c a;chute d a;chute d b;"
        + "chute d c;chute e a wide 2;chute e b wide 2;chute e c;chute e d;drain a wide 2;drain b;drain c;drain d wide 2;";
    private static final String TURNS_2000 = "plate a;plate b;plate c;plate d;plate e;chute b a;chute c a wide 2;"
        + "chute c b wide 2;chute d a;chute d b;chute d c wide 2;chute e a;chute e b;chute e c wide 2;drain a wide 2;"
        + "drain b wide 2;drain c wide 2;drain e;";

    private LendEdges() {
    }

    static void all(Edges e) {
        terms(e);
        heaps(e);
        turns(e);
        evens(e);
        squares(e);
        duels(e);
    }

    private static void terms(Edges e) {
        e.of(0, "each HEAP is ONE with just one HEAP that COMES AGAIN, its OWN,", LendEdges::justOneOwn);
        e.of(0, "(a PLATE TOPPLES though it has too few, it is below 0 then; or takes back all that one TOPPLING of it gives),",
            LendEdges::lent);
        e.of(0, "NOUGHT is the OWN of the HEAP of no grains.", LendEdges::ownOfNothing);
        e.of(0, "SUM of two HEAPS: PLATE by PLATE together, then SETTLED.", LendEdges::sumOfSettledOnes);
        e.of(0, "TURNS of a HEAP: how often it must be added together at the least (1: itself) so that its OWN is NOUGHT.",
            LendEdges::oneTurn);
        e.of(0, "BARE of a HEAP: that SETTLED HEAP that is ONE with it of which the BRIMS less 1, less it,",
            LendEdges::bareTurnedOver);
        e.of(0, "EVEN are a HEAP and what the DRAIN has (below 0: it owes)", LendEdges::drainOwes);
        e.of(0, "neither a PLATE nor the DRAIN is below 0:", LendEdges::noneBelow);
        e.of(0, "no fewer than the grains of the HEAP's BARE.", LendEdges::noFewerThanBare);
        e.of(0, "CREDIT: the most that the DRAIN may owe so that all is EVEN.", LendEdges::mostOwed);
        e.of(0, "RANK of what the DRAIN has: the most (0 .. 3; 3: three or more) grains", LendEdges::threeOrMore);
        e.of(0, "whichever so many are taken away (PLATES and the DRAIN may come below 0; their OWN, BARE are told likewise),",
            LendEdges::takenBelow);
        e.of(0, "-1 if it is not EVEN.", LendEdges::notEven);
    }

    private static void heaps(Edges e) {
        e.of(31, "NONE if there is none such.", () -> Edges.onlyPlates("nought", SandPlates::nought));
        e.of(31, "Grains of NOUGHT on a PLATE;", LendEdges::noughtWhateverThereIs);
        e.of(32, "NONE if there is none such.", () -> Edges.onlyPlates("own", SandPlates::own));
        e.of(32, "Grains of the OWN on a PLATE;", LendEdges::ownOfFullPlates);
        e.of(32, "Grains of the OWN", LendEdges::ownBehindOtherTables);
        e.of(33, "NONE if there is none such.", () -> Edges.onlyPlates("bare", SandPlates::bare));
        e.of(33, "Grains of the BARE on a PLATE;", LendEdges::bareOfFullPlates);
        e.of(34, "its LEVEL; NONE if nothing is.", LendEdges::sumOfEmptyBox);
        e.of(34, "Its grains lie there then, PLATE by PLATE (behind NONE: nothing).", LendEdges::sumLies);
        e.of(35, "are ONE: 1, 0;", LendEdges::oneOrNot);
        e.of(35, "NONE if nothing is.", LendEdges::oneOfEmptyBox);
    }

    private static void turns(Edges e) {
        e.of(36, "TURNS (1 .. 2000);", LendEdges::cycleTo2000);
        e.of(36, "NONE if more.", LendEdges::cycleAbove2000);
        e.of(37, "TURNS of the HEAP of one grain on a PLATE (1 .. 2000);", LendEdges::wheelTo2000);
        e.of(37, "NONE if more,", LendEdges::wheelAbove2000);
        e.of(37, "or there is none such.", () -> Edges.onlyPlates("wheel", SandPlates::wheel));
    }

    private static void evens(Edges e) {
        e.of(38, "CREDIT.", LendEdges::noCredit);
        e.of(39, "RANK (the DRAIN has -30 .. 30):", LendEdges::thirtyOwedOrHad);
        e.of(39, "-1 .. 3;", LendEdges::leastAndMostRank);
        e.of(39, "RANK", LendEdges::ranksOfThreeRings);
        e.of(39, "-2 for another number.", LendEdges::rankOfAnotherNumber);
    }

    private static void squares(Edges e) {
        e.of(40, "in lowest terms;", LendEdges::lowestTerms);
        e.of(40, "NONE if one can't be.", LendEdges::meanThatCannotBe);
        e.of(0, "with nothing but numbers above 0 from corner to corner, each of which divides the next one: "
            + "those of them above 1", LendEdges::partsAboveOne);
        e.of(0, "(their product is how many HEAPS COME AGAIN).", LendEdges::productOfParts);
        e.of(41, "The i-th (0 ..) of PARTS, from the least on;", LendEdges::fromTheLeastOn);
        e.of(41, "NONE if there is none such.", LendEdges::noSuchPart);
        e.of(42, "PLATES that are LIKE a PLATE, as bits (not itself);", LendEdges::likeNoneOrAll);
        e.of(42, "NONE if there is none such.", () -> Edges.onlyPlates("like", SandPlates::like));
        e.of(45, "ODDS (n 0 .. 4)", LendEdges::noughtToFourDays);
        e.of(45, "in lowest terms (0 of 1);", LendEdges::lowestOdds);
        e.of(45, "NONE if one can't be.", LendEdges::oddsThatCannotBe);
        e.of(0, "ODDS: that there is no luck in n DAYS, whatever the SEED is.", LendEdges::whateverTheSeed);
    }

    private static void duels(Edges e) {
        e.of(0, "whose each is drops 0 .. 3 grains on it, then all SETTLES;", LendEdges::noughtToThreeGrains);
        e.of(0, "each has how often it TOPPLES, less what was dropped on it;", LendEdges::lessWhatWasDropped);
        e.of(0, "at RESTS neither, the other one's dropping so, would have more by another number.", LendEdges::noMore);
        e.of(43, "DUEL: how many RESTS; NONE if both are one,", LendEdges::bothAreOne);
        e.of(43, "or one can't be.", LendEdges::duelThatCannotBe);
        e.of(43, "What both drop in the first of these lies there then (the first one's, the other one's; of like ones the least;",
            LendEdges::firstRestLies);
        e.of(43, "behind 0, NONE: nothing).", LendEdges::nothingLiesBehindNone);
    }

    private static SandPlates ring(int a, int b) {
        return Due.told(String.format(RING, a, b));
    }

    private static void twoHeaps(String call, int a, int b, int wantA, int wantB) {
        DUE.is(call + " of a", a, wantA);
        DUE.is(call + " of b", b, wantB);
    }

    // ---- heaps

    private static void justOneOwn() {
        // A ring of three has three heaps that come again: each other one is one with one of them.
        int[][] own = {{1, 1}, {0, 1}, {1, 0}};
        for (int a = 0; a <= 6; a++) {
            for (int b = 0; b <= 6; b++) {
                SandPlates x = ring(a, b);
                int[] want = own[(2 * a + b) % 3 == 0 ? 0 : (2 * a + b) % 3 == 1 ? 1 : 2];
                twoHeaps("own of " + a + " " + b, x.own(0), x.own(1), want[0], want[1]);
            }
        }
    }

    private static void lent() {
        SandPlates x = ring(0, 0);
        x.image(0);
        // Each takes back what one toppling gives: 2 -1, then 1 1.
        x.drop(0, 1);
        x.drop(1, 1);
        DUE.is("0 0 and 1 1", x.one(0), 1);
        x = ring(3, 0);
        x.image(0);
        x.sweep(0);
        DUE.is("3 0 and 0 0", x.one(0), 1);
        x.drop(0, 1);
        DUE.is("3 0 and 1 0", x.one(0), 0);
        // What topples by hand stays one with what it was.
        x = Due.told("plate a holds 9;plate b holds 4;chute a b wide 2;drain b;");
        x.image(0);
        x.topple(0);
        DUE.is("toppled", x.one(0), 1);
        x.settle();
        DUE.is("settled", x.one(0), 1);
    }

    private static void ownOfNothing() {
        SandPlates x = ring(0, 0);
        twoHeaps("nought", x.nought(0), x.nought(1), 1, 1);
        twoHeaps("own", x.own(0), x.own(1), 1, 1);
        DUE.is("one plate", Due.told("plate a;drain a wide 2;").nought(0), 0);
        x = Due.told(PATH);
        int[] want = {1, 1, 0};
        for (int i = 0; i < 3; i++) {
            DUE.is("of a path", x.nought(i), want[i]);
        }
        // All topple together and lose 2 each: 8 on each is one with none, and the first can burn by it.
        StringBuilder text = new StringBuilder();
        for (char c = 'a'; c <= 'e'; c++) {
            text.append("plate ").append(c).append(";drain ").append(c).append(" wide 2;");
            for (char d = 'a'; d < c; d++) {
                text.append("chute ").append(c).append(' ').append(d).append(" wide 2;");
            }
        }
        x = Due.told(text.toString());
        for (int i = 0; i < 5; i++) {
            DUE.is("of the widest", x.nought(i), 8);
        }
    }

    private static void sumOfSettledOnes() {
        SandPlates x = ring(0, 0);
        x.image(0);
        DUE.is("0 0 and 0 0", x.sum(0), 0);
        Edges.lie(x, 0, 0);
        x = ring(1, 0);
        x.image(0);
        DUE.is("1 0 and 1 0", x.sum(0), 1);
        Edges.lie(x, 0, 1);
        x = ring(1, 1);
        x.image(0);
        // 2 2 comes to 1 1: what adds nothing added to itself.
        DUE.is("1 1 and 1 1", x.sum(0), 2);
        Edges.lie(x, 1, 1);
    }

    private static void oneTurn() {
        DUE.is("no grains", ring(0, 0).cycle(), 1);
        DUE.is("nought itself", ring(1, 1).cycle(), 1);
        DUE.is("three on a", ring(3, 0).cycle(), 1);
        DUE.is("one on a", ring(1, 0).cycle(), 3);
        DUE.is("without plates", new SandPlates().cycle(), 1);
        DUE.is("of one heap alone", Due.told(PATH).wheel(2), 1);
    }

    private static void bareTurnedOver() {
        SandPlates x = ring(1, 1);
        twoHeaps("bare of 1 1", x.bare(0), x.bare(1), 0, 0);
        x = ring(0, 0);
        twoHeaps("bare of 0 0", x.bare(0), x.bare(1), 0, 0);
        x = ring(1, 0);
        twoHeaps("bare of 1 0", x.bare(0), x.bare(1), 1, 0);
        x = ring(2, 0);
        twoHeaps("bare of 2 0", x.bare(0), x.bare(1), 0, 1);
    }

    private static void drainOwes() {
        // 3 0 is one with 0 0: the drain may owe up to 3.
        SandPlates x = ring(3, 0);
        DUE.is("it owes 3", x.rank(-3), 0);
        DUE.is("it owes 4", x.rank(-4), -1);
        DUE.is("it has none", x.rank(0), 2);
        DUE.is("it has 1", x.rank(1), 3);
    }

    private static void noneBelow() {
        DUE.is("nothing at all", ring(0, 0).rank(0), 0);
        DUE.is("one plate has one", ring(1, 0).rank(0), 0);
        DUE.is("and the drain owes it", ring(1, 0).rank(-1), -1);
        DUE.is("without plates the drain has none", new SandPlates().rank(0), 0);
        DUE.is("without plates the drain owes one", new SandPlates().rank(-1), -1);
    }

    private static void noFewerThanBare() {
        // The bare of 2 0 is 0 1: one grain together is even, none is not.
        SandPlates x = ring(2, 0);
        DUE.is("1 together", x.rank(-1), 0);
        DUE.is("0 together", x.rank(-2), -1);
        x = Due.told("plate a holds 5;drain a wide 2;");
        DUE.is("1 together", x.rank(-4), 0);
        DUE.is("0 together", x.rank(-5), -1);
    }

    private static void mostOwed() {
        String[] texts = {String.format(RING, 0, 0), String.format(RING, 1, 0), String.format(RING, 9, 4), PATH,
            "plate a holds 5;drain a wide 2;", "plate a holds 9;plate b holds 8;chute a b wide 2;drain a wide 2;", TURNS_2001, ""};
        for (String text : texts) {
            SandPlates x = Due.told(text);
            int credit = x.credit();
            DUE.is("credit of " + text, credit >= 0, true);
            DUE.is("all of it is even: " + text, x.rank(-credit) >= 0, true);
            DUE.is("one more is not: " + text, x.rank(-credit - 1), -1);
        }
    }

    private static void threeOrMore() {
        // On a path all grains can come together anywhere, so as many can be taken as there are.
        SandPlates x = Due.told(PATH);
        int[] ranks = {-1, 0, 1, 2, 3, 3, 3};
        for (int i = 0; i < ranks.length; i++) {
            DUE.is("rank(" + (i - 1) + ")", x.rank(i - 1), ranks[i]);
            DUE.is("rank(" + (i - 1) + ") without plates", new SandPlates().rank(i - 1), ranks[i]);
        }
        DUE.is("many more", x.rank(30), 3);
        // On a ring one fewer, but for none that come to none.
        x = ring(0, 0);
        int[] ofRing = {-1, 0, 0, 1, 2, 3, 3};
        for (int i = 0; i < ofRing.length; i++) {
            DUE.is("rank(" + (i - 1) + ") of a ring", x.rank(i - 1), ofRing[i]);
        }
    }

    private static void takenBelow() {
        // All grains are in the drain: what is taken is taken from empty plates.
        DUE.is("from empty plates", ring(0, 0).rank(2), 1);
        DUE.is("three from empty plates", ring(0, 0).rank(4), 3);
        // All grains are on one plate: what is taken is taken from the empty drain and the other plate.
        DUE.is("from an empty drain", ring(2, 0).rank(0), 1);
        DUE.is("one plate", Due.told("plate a;drain a wide 2;").rank(2), 1);
        DUE.is("one plate", Due.told("plate a;drain a wide 2;").rank(4), 3);
    }

    private static void notEven() {
        DUE.is("a ring", ring(0, 0).rank(-1), -1);
        DUE.is("as many grains, but not one with none", ring(2, 0).rank(-2), -1);
        DUE.is("far from it", ring(0, 0).rank(-30), -1);
        DUE.is("a full plate and 30 owed", Due.told("plate a holds 30;drain a;").rank(-30), 0);
        DUE.is("29 and 30 owed", Due.told("plate a holds 29;drain a;").rank(-30), -1);
    }

    private static void noughtWhateverThereIs() {
        SandPlates x = ring(0, 0);
        x.drop(0, 20);
        twoHeaps("nought behind a drop", x.nought(0), x.nought(1), 1, 1);
        DUE.is("another table's", nextTable(x).nought(0), 0);
    }

    private static SandPlates nextTable(SandPlates x) {
        Due.write(x, "plate a;drain a wide 2;");
        x.table();
        return x;
    }

    /** 999 grains on each plate of a ring, and two more on a by toppling. */
    private static SandPlates full() {
        SandPlates x = Due.told("plate a holds 19;plate b holds 19;chute a b;drain a;drain b;");
        for (int i = 0; i < 98; i++) {
            x.drop(i % 2, 20);
        }
        x.topple(1);
        x.topple(1);
        DUE.is("more than 999", x.plate(0, 0), 1001);
        DUE.is("fewer", x.plate(1, 0), 995);
        return x;
    }

    private static void ownOfFullPlates() {
        // 2 * 1001 + 995 is 2997, a multiple of 3: one with none.
        SandPlates x = full();
        twoHeaps("own", x.own(0), x.own(1), 1, 1);
        x = ring(1, 1);
        twoHeaps("own of what comes again", x.own(0), x.own(1), 1, 1);
        x = ring(1, 0);
        twoHeaps("own of what comes again", x.own(0), x.own(1), 1, 0);
    }

    /** In an object that has had other tables all is as in a new one. */
    private static void ownBehindOtherTables() {
        String[] texts = {String.format(RING, 1, 0), TURNS_2001, "plate a holds 3;drain a wide 2;", PATH, TURNS_2000,
            "plate a holds 4;plate b holds 1;chute a b wide 2;drain b;", String.format(RING, 2, 0), ""};
        SandPlates x = new SandPlates();
        for (String text : texts) {
            Due.write(x, text);
            int plates = x.table();
            SandPlates fresh = Due.told(text);
            for (int i = 0; i < plates; i++) {
                DUE.is("own(" + i + ") of " + text, x.own(i), fresh.own(i));
                DUE.is("bare(" + i + ") of " + text, x.bare(i), fresh.bare(i));
                DUE.is("nought(" + i + ") of " + text, x.nought(i), fresh.nought(i));
                DUE.is("wheel(" + i + ") of " + text, x.wheel(i), fresh.wheel(i));
            }
            DUE.is("cycle of " + text, x.cycle(), fresh.cycle());
            DUE.is("credit of " + text, x.credit(), fresh.credit());
            DUE.is("many of " + text, x.many(), fresh.many());
        }
        Due.write(x, String.format(RING, 2, 0));
        x.table();
        twoHeaps("own of 2 0", x.own(0), x.own(1), 0, 1);
    }

    private static void bareOfFullPlates() {
        SandPlates x = full();
        twoHeaps("bare", x.bare(0), x.bare(1), 0, 0);
        DUE.is("all of them may be owed", x.credit(), 1996);
        x.sweep(0);
        // 995 on b are 2 more than a multiple of 3: 1 0 is one with that.
        twoHeaps("bare", x.bare(0), x.bare(1), 1, 0);
    }

    private static SandPlates boxed() {
        SandPlates x = Twins.rich();
        x.image(1);
        return x;
    }

    private static void sumOfEmptyBox() {
        DUE.is("nothing was kept", new SandPlates().sum(0), -1);
        for (int box = 0; box < 3; box++) {
            DUE.is("kept in " + box, boxed().sum(box) >= 0, true);
        }
        DUE.is("kept in others", Twins.rich().sum(1), -1);
        for (int box : new int[] {-1, 3, 4, Edges.MIN, Edges.MAX, -8, 1 << 29}) {
            DUE.is("sum(" + box + ")", boxed().sum(box), -1);
        }
        SandPlates empty = new SandPlates();
        empty.image(0);
        DUE.is("without plates", empty.sum(0), 0);
        Edges.lie(empty);
    }

    private static void sumLies() {
        SandPlates x = ring(1, 1);
        x.image(2);
        DUE.is("sum", x.sum(2), 2);
        Edges.lie(x, 1, 1);
        DUE.is("an empty box", x.sum(0), -1);
        Edges.lie(x);
        x.sum(2);
        DUE.is("no box", x.sum(3), -1);
        Edges.lie(x);
        x.sum(2);
        DUE.is("no box", x.sum(-1), -1);
        Edges.lie(x);
        x.fire();
        DUE.is("an empty box behind a fire", x.sum(1), -1);
        Edges.lie(x);
        // Nothing else is done by it.
        SandPlates y = Twins.rich();
        DUE.is("refused", y.sum(1), -1);
        Twins.same("sum(1)", y, Twins.rich(), false, true);
    }

    private static void oneOrNot() {
        SandPlates x = ring(1, 0);
        x.image(0);
        DUE.is("with itself", x.one(0), 1);
        x.drop(1, 1);
        DUE.is("1 1 and 1 0", x.one(0), 0);
        x.drop(1, 2);
        DUE.is("1 3 and 1 0", x.one(0), 1);
        SandPlates empty = new SandPlates();
        empty.image(0);
        DUE.is("without plates", empty.one(0), 1);
        // All heaps of a path are one.
        x = Due.told(PATH);
        x.image(0);
        x.drop(2, 7);
        DUE.is("on a path", x.one(0), 1);
    }

    private static void oneOfEmptyBox() {
        DUE.is("nothing was kept", new SandPlates().one(0), -1);
        DUE.is("kept in others", Twins.rich().one(1), -1);
        for (int box : new int[] {-1, 3, 4, Edges.MIN, Edges.MAX, -8, 1 << 29}) {
            Twins.refused("one(" + box + ")", x -> x.one(box), -1);
        }
        Twins.refused("one(1)", x -> x.one(1), -1);
    }

    // ---- turns

    private static void cycleTo2000() {
        SandPlates x = Due.told(TURNS_2000);
        DUE.is("no grains", x.cycle(), 1);
        x.drop(0, 1);
        DUE.is("2000", x.cycle(), 2000);
        x.drop(0, 1);
        DUE.is("1000", x.cycle(), 1000);
    }

    private static void cycleAbove2000() {
        SandPlates x = Due.told(TURNS_2001);
        x.drop(1, 1);
        DUE.is("2001", x.cycle(), -1);
        x.drop(1, 2);
        DUE.is("667", x.cycle(), 667);
    }

    private static void wheelTo2000() {
        DUE.is("2000", Due.told(TURNS_2000).wheel(0), 2000);
        DUE.is("667", Due.told(TURNS_2001).wheel(0), 667);
        DUE.is("1", Due.told(PATH).wheel(0), 1);
        DUE.is("2", Due.told("plate a;drain a wide 2;").wheel(0), 2);
        SandPlates x = ring(1, 1);
        DUE.is("own", x.own(0), 1);
        DUE.is("of one grain, whatever there is and was asked", x.wheel(1), 3);
        DUE.is("of the other", x.wheel(0), 3);
    }

    private static void wheelAbove2000() {
        DUE.is("2001", Due.told(TURNS_2001).wheel(1), -1);
        DUE.is("of a plate that there is", Due.told(TURNS_2001).plate(1, 0), 0);
    }

    // ---- even ones

    private static void noCredit() {
        DUE.is("without plates", new SandPlates().credit(), 0);
        DUE.is("no grains", ring(0, 0).credit(), 0);
        DUE.is("as bare as can be", ring(1, 0).credit(), 0);
        DUE.is("nought", ring(1, 1).credit(), 2);
        DUE.is("99", Due.told("plate a holds 99;drain a;").credit(), 99);
        // What the drain has is not asked.
        SandPlates x = Due.told("plate a holds 5;drain a;");
        x.settle();
        DUE.is("all in the drain", x.credit(), 0);
    }

    private static void thirtyOwedOrHad() {
        SandPlates x = ring(0, 0);
        for (int drain = -30; drain <= 30; drain++) {
            int want = drain < 0 ? -1 : drain == 0 ? 0 : Math.min(3, drain - 1);
            DUE.is("rank(" + drain + ")", x.rank(drain), want);
        }
        x = Due.told("plate a holds 33;drain a;");
        DUE.is("33 less 30", x.rank(-30), 3);
        // The drain has what is told, not what is in it.
        x.settle();
        DUE.is("none", x.rank(0), 0);
        DUE.is("one", x.rank(1), 1);
    }

    private static void leastAndMostRank() {
        DUE.is("-1", ring(0, 0).rank(-1), -1);
        DUE.is("0", ring(0, 0).rank(0), 0);
        DUE.is("3", ring(0, 0).rank(4), 3);
        DUE.is("no more", full().rank(30), 3);
        DUE.is("no less", Due.told(TURNS_2001).rank(-30), -1);
    }

    /**
     * Five chutes, three of which close rings: by the theorem of Riemann and Roch a rank is that of what lacks to
     * 1 2 and 1 in the drain, and 2 less than all grains, more. Eight heaps come again: a counts 2 of 8, b counts 3,
     * the drain 0; grains are even with one another if these are the same.
     */
    private static void ranksOfThreeRings() {
        String text = "plate a holds %d;plate b holds %d;chute a b wide 2;drain a;drain b wide 2;";
        for (int a = 0; a <= 7; a++) {
            for (int b = 0; b <= 7; b++) {
                SandPlates x = Due.told(String.format(text, a, b));
                for (int all = -2; all <= 9; all++) {
                    String call = "rank(" + (all - a - b) + ") of " + a + " " + b;
                    DUE.is(call, x.rank(all - a - b), rankOfThreeRings(all, (2 * a + 3 * b) % 8));
                }
            }
        }
    }

    private static int rankOfThreeRings(int all, int counts) {
        boolean single = counts == 0 || counts == 2 || counts == 3;
        boolean lacksSingle = counts == 0 || counts == 6 || counts == 5;
        switch (all) {
            case 0: return counts == 0 ? 0 : -1;
            case 1: return single ? 0 : -1;
            case 2: return counts == 1 || counts == 7 ? -1 : 0;
            case 3: return lacksSingle ? 1 : 0;
            case 4: return counts == 0 ? 2 : 1;
            default: return all < 0 ? -1 : Math.min(3, all - 3);
        }
    }

    private static void rankOfAnotherNumber() {
        for (int drain : new int[] {-31, 31, -32, 32, 99, Edges.MIN, Edges.MAX}) {
            DUE.is("rank(" + drain + ")", ring(9, 9).rank(drain), -2);
            DUE.is("rank(" + drain + ") without plates", new SandPlates().rank(drain), -2);
        }
    }

    // ---- squares

    private static void fraction(SandPlates x, int plate, int other, int upper, int lower) {
        DUE.is("mean(" + plate + ", " + other + ", 0)", x.mean(plate, other, 0), upper);
        DUE.is("mean(" + plate + ", " + other + ", 1)", x.mean(plate, other, 1), lower);
    }

    private static void lowestTerms() {
        SandPlates x = Due.told("plate a;plate b;drain a wide 2;drain b wide 2;");
        fraction(x, 0, 0, 1, 2);
        fraction(x, 0, 1, 0, 1);
        fraction(x, 1, 0, 0, 1);
        x = Due.told(PATH);
        fraction(x, 2, 2, 3, 1);
        fraction(x, 0, 2, 1, 1);
        x = ring(5, 5);
        fraction(x, 0, 0, 2, 3);
        fraction(x, 0, 1, 1, 3);
        // 4 -2 by -2 3: eight heaps come again.
        x = Due.told("plate a;plate b;chute a b wide 2;drain a wide 2;drain b;");
        fraction(x, 0, 0, 3, 8);
        fraction(x, 0, 1, 1, 4);
        fraction(x, 1, 1, 1, 2);
    }

    private static void meanThatCannotBe() {
        Edges.onlyPlates("mean of the first", (x, plate) -> x.mean(plate, 0, 1));
        Edges.onlyPlates("mean of the second", (x, plate) -> x.mean(0, plate, 1));
        Edges.onlyPlates("mean of both", (x, plate) -> x.mean(plate, plate, 0));
        Edges.only("mean part", 0, 1, -1, part -> ring(0, 0).mean(0, 1, part));
    }

    private static void partsAboveOne() {
        DUE.is("none of a path", Due.told(PATH).parts(0), -1);
        DUE.is("one plate", Due.told("plate a;drain a wide 2;").parts(0), 2);
        DUE.is("one plate of brim 1", Due.told("plate a;drain a;").parts(0), -1);
        SandPlates x = Due.told("plate a;plate b;drain a;drain b wide 2;");
        DUE.is("1 is left out", x.parts(0), 2);
        DUE.is("no more", x.parts(1), -1);
        // 2 and 3 from corner to corner: 2 does not divide 3, so it comes to 1 and 6.
        x = Due.told("plate a;plate b;plate c;drain a wide 2;drain b;drain c;chute b c;");
        DUE.is("6", x.parts(0), 6);
        DUE.is("no more", x.parts(1), -1);
    }

    private static void productOfParts() {
        String[] texts = {"", PATH, String.format(RING, 0, 0), TURNS_2000, TURNS_2001,
            "plate a;plate b;plate c;drain a wide 2;drain b wide 2;drain c wide 2;chute a b wide 2;"};
        for (String text : texts) {
            SandPlates x = Due.told(text);
            int product = 1;
            int before = 1;
            for (int i = 0; i < 6 && x.parts(i) != -1; i++) {
                product *= x.parts(i);
                DUE.is("each divides the next: " + text, x.parts(i) % before, 0);
                before = x.parts(i);
            }
            DUE.is("their product: " + text, product, x.many());
        }
    }

    private static void fromTheLeastOn() {
        SandPlates x = Due.told("plate a;plate b;plate c;plate d;plate e;drain a wide 2;drain b wide 2;drain c wide 2;"
            + "drain d wide 2;drain e wide 2;");
        for (int i = 0; i < 5; i++) {
            DUE.is("parts(" + i + ")", x.parts(i), 2);
        }
        DUE.is("parts(5)", x.parts(5), -1);
        // 4 -2 by -2 4 beside 2: 2, 2, 6.
        x = Due.told("plate a;plate b;plate c;drain a wide 2;drain b wide 2;drain c wide 2;chute a b wide 2;");
        int[] want = {2, 2, 6, -1};
        for (int i = 0; i < want.length; i++) {
            DUE.is("parts(" + i + ")", x.parts(i), want[i]);
        }
    }

    private static void noSuchPart() {
        DUE.is("without plates", new SandPlates().parts(0), -1);
        SandPlates x = ring(0, 0);
        DUE.is("parts(0)", x.parts(0), 3);
        for (int i : new int[] {-1, 1, 2, 4, 5, 6, Edges.MIN, Edges.MAX}) {
            DUE.is("parts(" + i + ")", x.parts(i), -1);
        }
        // Those of the table before are gone.
        Due.write(x, PATH);
        x.table();
        DUE.is("of a path", x.parts(0), -1);
    }

    private static void likeNoneOrAll() {
        DUE.is("one plate", Due.told("plate a;drain a;").like(0), 0);
        DUE.is("unlike drains", Due.told("plate a;plate b;drain a;drain b wide 2;").like(0), 0);
        SandPlates x = Due.told("plate a;plate b;plate c;plate d;plate e;drain a;drain b;drain c;drain d;drain e;");
        for (int i = 0; i < 5; i++) {
            DUE.is("all but itself", x.like(i), 31 & ~(1 << i));
        }
        // However full they are.
        DUE.is("by chutes alone", ring(0, 9).like(0), 2);
        x = Due.told("plate a;plate b;plate c;chute a b;chute b c wide 2;drain a;drain c;");
        DUE.is("unlike chutes to a third", x.like(0), 0);
        DUE.is("unlike chutes to a third", x.like(2), 0);
        // Whichever is the third: the first, the last.
        x = Due.told("plate a;plate b;plate c;chute a b;chute a c wide 2;drain b;drain c;");
        DUE.is("unlike chutes to the first", x.like(1), 0);
        DUE.is("unlike chutes to the first", x.like(2), 0);
        x = Due.told("plate a;plate b;plate c;chute c a;chute c b wide 2;drain a;drain b;");
        DUE.is("unlike chutes to the last", x.like(0), 0);
        DUE.is("unlike chutes to the last", x.like(1), 0);
    }

    // ---- odds

    private static void chance(SandPlates x, int n, int upper, int lower) {
        DUE.is("odds(" + n + ", 0)", x.odds(n, 0), upper);
        DUE.is("odds(" + n + ", 1)", x.odds(n, 1), lower);
    }

    private static void noughtToFourDays() {
        SandPlates x = Due.told("plate a;drain a;luck 1;");
        chance(x, 0, 1, 1);
        chance(x, 1, 99, 100);
        chance(x, 2, 9801, 10000);
        chance(x, 3, 970299, 1000000);
        chance(x, 4, 96059601, 100000000);
    }

    private static void lowestOdds() {
        SandPlates none = Due.told("plate a;drain a;luck 100;");
        chance(none, 0, 1, 1);
        for (int n = 1; n <= 4; n++) {
            chance(none, n, 0, 1);
            chance(Due.told("plate a;drain a;"), n, 1, 1);
            chance(Due.told("plate a;drain a;luck 50;"), n, 1, 1 << n);
        }
        chance(Due.told("plate a;drain a;luck 99;"), 4, 1, 100000000);
        chance(Due.told("plate a;drain a;luck 40;"), 2, 9, 25);
    }

    private static void oddsThatCannotBe() {
        for (int luck : new int[] {0, 7, 100}) {
            SandPlates x = Due.told("plate a;drain a;luck " + luck + ";");
            Edges.only("odds n, upper part", 0, 4, -1, n -> x.odds(n, 0));
            Edges.only("odds n, lower part", 0, 4, -1, n -> x.odds(n, 1));
            Edges.only("odds part", 0, 1, -1, part -> x.odds(2, part));
        }
    }

    private static void whateverTheSeed() {
        for (int draw = 0; draw < 1000; draw += 111) {
            SandPlates x = Due.told("plate a;drain a;luck 30;draw " + draw + ";");
            chance(x, 2, 49, 100);
            x.day();
            chance(x, 2, 49, 100);
        }
    }

    // ---- duels

    private static void noughtToThreeGrains() {
        // Each grain on a topples a twice: more would be better still, but 3 are the most.
        SandPlates x = Due.told("plate a;plate b;chute a b;drain b;plate c;drain c wide 2;");
        x.drop(1, 1);
        DUE.is("a path", x.duel(0, 2), 1);
        Edges.lie(x, 3, 0);
        // Two grains for one toppling: none is the best.
        x = Due.told("plate a;plate b;drain a wide 2;drain b wide 2;");
        DUE.is("none", x.duel(0, 1), 1);
        Edges.lie(x, 0, 0);
    }

    private static void lessWhatWasDropped() {
        // One toppling for each grain: all 16 are alike.
        SandPlates x = Due.told("plate a;plate b;drain a;drain b;");
        DUE.is("all", x.duel(0, 1), 16);
        Edges.lie(x, 0, 0);
        // What topples without them changes nothing.
        x = Due.told("plate a holds 50;plate b holds 7;drain a;drain b;");
        DUE.is("all", x.duel(0, 1), 16);
        Edges.lie(x, 0, 0);
    }

    private static void noMore() {
        // b has 1 of 2: by 0, 1, 2, 3 grains it has 0, 0, -1, -1; a has 0, -1, -1, -2.
        SandPlates x = Due.told("plate a;plate b holds 1;drain a wide 2;drain b wide 2;");
        DUE.is("0 0 and 0 1", x.duel(0, 1), 2);
        Edges.lie(x, 0, 0);
        DUE.is("0 0 and 1 0", x.duel(1, 0), 2);
        Edges.lie(x, 0, 0);
    }

    private static void bothAreOne() {
        for (int plate = 0; plate < 2; plate++) {
            SandPlates x = ring(1, 1);
            DUE.is("duel(" + plate + ", " + plate + ")", x.duel(plate, plate), -1);
        }
        DUE.is("one plate", Due.told("plate a;drain a;").duel(0, 0), -1);
        DUE.is("both can't be", ring(0, 0).duel(7, 7), -1);
    }

    private static void duelThatCannotBe() {
        for (int plate : new int[] {-1, 2, 3, 4, 5, Edges.MIN, Edges.MAX}) {
            DUE.is("duel(" + plate + ", 0)", ring(1, 1).duel(plate, 0), -1);
            DUE.is("duel(0, " + plate + ")", ring(1, 1).duel(0, plate), -1);
        }
        DUE.is("without plates", new SandPlates().duel(0, 1), -1);
        SandPlates five = Due.told("plate a;plate b;plate c;plate d;plate e;drain a;drain b;drain c;drain d;drain e;");
        DUE.is("the last two", five.duel(4, 3), 16);
        DUE.is("behind the last", five.duel(4, 5), -1);
    }

    private static void firstRestLies() {
        // To b all is alike, a drops 3: 3 0 .. 3 3, of which 3 0 is the first.
        SandPlates x = Due.told("plate a holds 1;plate b;chute a b;drain b;");
        DUE.is("a, b", x.duel(0, 1), 4);
        Edges.lie(x, 3, 0);
        DUE.is("b, a", x.duel(1, 0), 4);
        Edges.lie(x, 0, 3);
    }

    private static void nothingLiesBehindNone() {
        SandPlates x = ring(1, 1);
        x.fire();
        DUE.is("numbers lie there", x.about(12), 2);
        DUE.is("both are one", x.duel(1, 1), -1);
        Edges.lie(x);
        x.fire();
        DUE.is("none such", x.duel(0, 2), -1);
        Edges.lie(x);
        x.fire();
        DUE.is("none such", x.duel(-1, 0), -1);
        Edges.lie(x);
        SandPlates y = Twins.rich();
        DUE.is("refused", y.duel(0, 3), -1);
        Twins.same("duel(0, 3)", y, Twins.rich(), false, true);
    }
}
