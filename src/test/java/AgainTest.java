/** Promises 26 to 43 and 45: heaps that come again, what is one by lending, fractions, parts, duels, odds. */
public final class AgainTest {
    private static final Due DUE = new Due("AgainTest");
    /** Two plates and the drain, each joined to each: three heaps come again. */
    private static final String RING = "plate a;plate b;chute a b;drain a;drain b;";
    private static final String PATH = "plate a;plate b;plate c;drain a;chute a b;chute b c;";

    public static void main(String[] args) {
        ring();
        path();
        fires();
        mends();
        sums();
        turns();
        evens();
        means();
        parts();
        likes();
        duels();
        odds();
        DUE.end();
    }

    private static String all(String wide) {
        StringBuilder text = new StringBuilder();
        for (char c = 'a'; c <= 'e'; c++) {
            text.append("plate ").append(c).append(";drain ").append(c).append(wide).append(";");
            for (char d = 'a'; d < c; d++) {
                text.append("chute ").append(c).append(' ').append(d).append(wide).append(";");
            }
        }
        return text.toString();
    }

    private static void ring() {
        SandPlates x = Due.told(RING);
        DUE.is("many", x.many(), 3);
        DUE.is("level(0)", x.level(0), 0);
        DUE.is("level(1)", x.level(1), 2);
        DUE.is("level(2)", x.level(2), 1);
        DUE.is("level(3)", x.level(3), 0);
        DUE.is("level(MAX)", x.level(Integer.MAX_VALUE), 0);
        DUE.is("level(-1)", x.level(-1), -1);
        DUE.is("level(MIN)", x.level(Integer.MIN_VALUE), -1);
        DUE.is("levels(0)", x.levels(0), 1);
        DUE.is("levels(1)", x.levels(1), 2);
        DUE.is("levels(2)", x.levels(2), -1);
        DUE.is("levels(-1)", x.levels(-1), -1);
        DUE.is("nought(0)", x.nought(0), 1);
        DUE.is("nought(1)", x.nought(1), 1);
        DUE.is("nought(2)", x.nought(2), -1);
        DUE.is("nought(-1)", x.nought(-1), -1);
        DUE.is("own(0)", x.own(0), 1);
        DUE.is("own(2)", x.own(2), -1);
        DUE.is("own(-1)", x.own(-1), -1);
        DUE.is("bare(0)", x.bare(0), 0);
        DUE.is("bare(2)", x.bare(2), -1);
        DUE.is("bare(-1)", x.bare(-1), -1);
        x.drop(0, 1);
        // 1 0 comes again itself, and is as bare as can be.
        DUE.is("own(0)", x.own(0), 1);
        DUE.is("own(1)", x.own(1), 0);
        DUE.is("bare(0)", x.bare(0), 1);
        DUE.is("bare(1)", x.bare(1), 0);
        x.drop(1, 1);
        // 1 1 is one with no grains.
        DUE.is("bare(0)", x.bare(0), 0);
        DUE.is("bare(1)", x.bare(1), 0);
        x = Due.told(all(" wide 2"));
        DUE.is("many of the widest", x.many(), 41472);
        DUE.is("least level", x.levels(0), 20);
        DUE.is("greatest level", x.levels(1), 45);
        int together = 0;
        for (int i = 0; i <= 46; i++) {
            together += x.level(i);
        }
        DUE.is("all levels", together, 41472);
        DUE.is("level(45)", x.level(45), 1);
        DUE.is("level(44)", x.level(44), 5);
        DUE.is("level(43)", x.level(43), 15);
        DUE.is("level(19)", x.level(19), 0);
    }

    private static void path() {
        SandPlates x = Due.told(PATH);
        DUE.is("many", x.many(), 1);
        DUE.is("level(2)", x.level(2), 1);
        DUE.is("nought(0)", x.nought(0), 1);
        DUE.is("nought(1)", x.nought(1), 1);
        DUE.is("nought(2)", x.nought(2), 0);
        DUE.is("parts(0)", x.parts(0), -1);
        DUE.is("cycle", x.cycle(), 1);
    }

    private static void fires() {
        SandPlates x = Due.told(RING);
        DUE.is("fire", x.fire(), 0);
        DUE.lie("fire", x);
        x.drop(1, 1);
        DUE.is("fire", x.fire(), 2);
        DUE.lie("fire", x, 1, 0);
        x.drop(0, 1);
        DUE.is("fire", x.fire(), 2);
        DUE.lie("fire", x, 0, 1);
        x.drop(0, 1);
        // By rest: 2 1 settles to 1 0.
        DUE.is("fire of rest", x.fire(), 2);
        DUE.lie("fire", x, 0, 1);
        x = Due.told("plate a holds 1;plate b;plate c;chute a b;chute b c;drain a;drain c;");
        DUE.is("some burn", x.fire(), 1);
        DUE.lie("fire", x, 0);
        // The least number that can burn next: 0 has to wait for 3, then comes ahead of 1 and 2.
        x = Due.told("plate a holds 2;plate b holds 1;plate c holds 1;plate d holds 1;"
            + "chute a d;chute a b;chute a c;drain d;drain b;drain c;");
        DUE.is("all burn", x.fire(), 4);
        DUE.lie("fire", x, 1, 0, 2, 3);
    }

    private static void mends() {
        SandPlates x = Due.told(RING);
        DUE.is("mend", x.mend(), 1);
        DUE.lie("mend", x, 0, 1);
        x.drop(0, 1);
        DUE.is("nothing to mend", x.mend(), 0);
        DUE.lie("mend", x, 0, 0);
        x = Due.told(PATH);
        DUE.is("mend the path", x.mend(), 2);
        DUE.lie("mend", x, 1, 1, 0);
        // b can't burn first, though it lacks nothing but what would topple it.
        x = Due.told("plate a;plate b;chute a b;drain a wide 2;");
        DUE.is("mend", x.mend(), 1);
        DUE.lie("mend", x, 1, 0);
        x = Due.told(all(" wide 2"));
        DUE.is("mend", x.mend(), 20);
        DUE.lie("mend", x, 0, 2, 4, 6, 8);
        x.drop(0, 9);
        DUE.is("mend by what is there", x.mend(), 12);
        DUE.lie("mend", x, 0, 0, 2, 4, 6);
        DUE.is("no plates", new SandPlates().mend(), 0);
    }

    private static void sums() {
        SandPlates x = Due.told(RING);
        x.drop(0, 1);
        x.row();
        DUE.is("sum of nothing", x.sum(0), -1);
        DUE.lie("sum of nothing", x);
        DUE.is("one of nothing", x.one(0), -1);
        DUE.is("image", x.image(0), 1);
        DUE.is("sum", x.sum(0), 1);
        // 2 0: a topples to 0 1.
        DUE.lie("sum", x, 0, 1);
        DUE.is("one with itself", x.one(0), 1);
        x.drop(0, 1);
        DUE.is("2 0 and 1 0", x.one(0), 0);
        x.drop(0, 2);
        DUE.is("4 0 and 1 0", x.one(0), 1);
        DUE.is("sum of unsettled ones", x.sum(0), 1);
        // 5 0: a twice, 1 2: b, 2 0: a, 0 1.
        DUE.lie("sum", x, 0, 1);
        DUE.is("box 1", x.sum(1), -1);
        DUE.lie("behind NONE", x);
        DUE.is("box 3", x.sum(3), -1);
        DUE.is("box -1", x.sum(-1), -1);
        DUE.is("box 3", x.one(3), -1);
        DUE.is("box -1", x.one(-1), -1);
        DUE.is("one(1)", x.one(1), -1);
    }

    private static void turns() {
        SandPlates x = Due.told(RING);
        DUE.is("no grains", x.cycle(), 1);
        DUE.is("wheel(0)", x.wheel(0), 3);
        DUE.is("wheel(1)", x.wheel(1), 3);
        DUE.is("wheel(2)", x.wheel(2), -1);
        DUE.is("wheel(-1)", x.wheel(-1), -1);
        x.drop(0, 4);
        DUE.is("4 0", x.cycle(), 3);
        x.drop(1, 1);
        DUE.is("4 1", x.cycle(), 1);
        x = Due.told("plate a;plate b;plate c;plate d;plate e;chute b a;chute c a;chute d a;chute d b;chute d c;"
            + "chute e a wide 2;chute e b wide 2;chute e c;chute e d;drain a wide 2;drain b;drain c;drain d wide 2;");
        DUE.is("many", x.many(), 2001);
        DUE.is("2001 turns", x.wheel(1), -1);
        DUE.is("667 turns", x.wheel(0), 667);
        x.drop(1, 1);
        DUE.is("2001 turns", x.cycle(), -1);
        x.drop(1, 2);
        DUE.is("667 turns", x.cycle(), 667);
        x = Due.told("plate a;plate b;plate c;plate d;plate e;chute b a;chute c a wide 2;chute c b wide 2;chute d a;"
            + "chute d b;chute d c wide 2;chute e a;chute e b;chute e c wide 2;drain a wide 2;drain b wide 2;"
            + "drain c wide 2;drain e;");
        DUE.is("2000 turns", x.wheel(0), 2000);
        x.drop(0, 1);
        DUE.is("2000 turns", x.cycle(), 2000);
    }

    private static void evens() {
        SandPlates x = Due.told(RING);
        DUE.is("credit of nothing", x.credit(), 0);
        // A ring has a rank of one less than its grains, but for none that come to no grains.
        int[] ranks = {-1, -1, 0, 0, 1, 2, 3, 3};
        for (int i = 0; i < ranks.length; i++) {
            DUE.is("rank(" + (i - 2) + ")", x.rank(i - 2), ranks[i]);
        }
        x.drop(0, 1);
        DUE.is("credit of 1 0", x.credit(), 0);
        DUE.is("not even", x.rank(-1), -1);
        DUE.is("even", x.rank(0), 0);
        x.drop(0, 2);
        DUE.is("credit of 3 0", x.credit(), 3);
        DUE.is("rank of 3 0 less 3", x.rank(-3), 0);
        DUE.is("rank of 3 0 less 2", x.rank(-2), 0);
        DUE.is("rank of 3 0 less 1", x.rank(-1), 1);
        DUE.is("rank(30)", x.rank(30), 3);
        DUE.is("rank(-30)", x.rank(-30), -1);
        DUE.is("rank(31)", x.rank(31), -2);
        DUE.is("rank(-31)", x.rank(-31), -2);
        x = Due.told(PATH);
        // On a tree all grains can come together anywhere.
        x.drop(2, 4);
        DUE.is("credit of a tree", x.credit(), 4);
        DUE.is("rank", x.rank(-5), -1);
        DUE.is("rank", x.rank(-4), 0);
        DUE.is("rank", x.rank(-3), 1);
        DUE.is("rank", x.rank(-2), 2);
        DUE.is("rank", x.rank(-1), 3);
        DUE.is("rank", x.rank(0), 3);
    }

    private static void fraction(SandPlates x, int plate, int other, int upper, int lower) {
        DUE.is("mean(" + plate + ", " + other + ", 0)", x.mean(plate, other, 0), upper);
        DUE.is("mean(" + plate + ", " + other + ", 1)", x.mean(plate, other, 1), lower);
    }

    private static void means() {
        SandPlates x = Due.told(RING);
        fraction(x, 0, 0, 2, 3);
        fraction(x, 0, 1, 1, 3);
        fraction(x, 1, 0, 1, 3);
        DUE.is("part 2", x.mean(0, 0, 2), -1);
        DUE.is("part -1", x.mean(0, 0, -1), -1);
        DUE.is("plate 2", x.mean(2, 0, 0), -1);
        DUE.is("plate 2", x.mean(0, 2, 0), -1);
        DUE.is("plate -1", x.mean(-1, 0, 0), -1);
        DUE.is("plate -1", x.mean(0, -1, 0), -1);
        x = Due.told(PATH);
        fraction(x, 2, 2, 3, 1);
        fraction(x, 2, 1, 2, 1);
        fraction(x, 2, 0, 1, 1);
        fraction(x, 1, 2, 2, 1);
        x = Due.told("plate a;plate b;drain a;drain b wide 2;");
        fraction(x, 0, 1, 0, 1);
        fraction(x, 1, 1, 1, 2);
    }

    private static void parts() {
        SandPlates x = Due.told(RING);
        DUE.is("parts(0)", x.parts(0), 3);
        DUE.is("parts(1)", x.parts(1), -1);
        DUE.is("parts(-1)", x.parts(-1), -1);
        x = Due.told(all(" wide 2"));
        DUE.is("parts(0)", x.parts(0), 2);
        for (int i = 1; i < 5; i++) {
            DUE.is("parts(" + i + ")", x.parts(i), 12);
        }
        DUE.is("parts(5)", x.parts(5), -1);
        x = Due.told(all(""));
        for (int i = 0; i < 4; i++) {
            DUE.is("parts(" + i + ")", x.parts(i), 6);
        }
        DUE.is("parts(4)", x.parts(4), -1);
    }

    private static void likes() {
        SandPlates x = Due.told("plate a;plate b;plate c;plate d;chute a b;chute a c;chute a d wide 2;drain a;");
        DUE.is("like(0)", x.like(0), 0);
        DUE.is("like(1)", x.like(1), 4);
        DUE.is("like(2)", x.like(2), 2);
        DUE.is("like(3)", x.like(3), 0);
        DUE.is("like(4)", x.like(4), -1);
        DUE.is("like(-1)", x.like(-1), -1);
        x = Due.told("plate a;plate b;plate c;chute a b;drain a;drain b wide 2;drain c;");
        DUE.is("the drain's width", x.like(0), 0);
        x = Due.told("plate a;plate b;plate c;chute a b wide 2;drain a;drain b;chute c a;chute b c;");
        DUE.is("joined ones", x.like(0), 2);
        DUE.is("all", Due.told(all("")).like(2), 27);
    }

    private static void duels() {
        SandPlates x = Due.told("plate a;plate b;drain a;drain b;");
        // Each grain topples its own plate once: all numbers are as good as others.
        DUE.is("all rest", x.duel(0, 1), 16);
        DUE.lie("duel", x, 0, 0);
        DUE.is("both are one", x.duel(0, 0), -1);
        DUE.lie("behind NONE", x);
        x.duel(0, 1);
        DUE.is("plate 2", x.duel(0, 2), -1);
        DUE.lie("behind NONE", x);
        DUE.is("plate -1", x.duel(-1, 0), -1);
        x = Due.told("plate a;plate b;drain a wide 2;drain b wide 2;");
        // Two grains for one toppling: nothing is the best.
        DUE.is("one rest", x.duel(0, 1), 1);
        DUE.lie("duel", x, 0, 0);
        x.drop(1, 1);
        // b topples at once with one grain, and with three twice: 0, 0, -1, -1.
        DUE.is("two rest", x.duel(0, 1), 2);
        DUE.lie("duel", x, 0, 0);
        x = Due.told("plate a holds 1;plate b;chute a b;drain b;");
        // Each grain on a topples a twice and b once, each on b both once: a drops 3, to b all is alike.
        DUE.is("a path", x.duel(1, 0), 4);
        DUE.lie("duel", x, 0, 3);
        DUE.is("a path", x.duel(0, 1), 4);
        DUE.lie("duel", x, 3, 0);
    }

    private static void chance(SandPlates x, int n, int upper, int lower) {
        DUE.is("odds(" + n + ", 0)", x.odds(n, 0), upper);
        DUE.is("odds(" + n + ", 1)", x.odds(n, 1), lower);
    }

    private static void odds() {
        SandPlates x = Due.told("plate a;drain a;luck 30;");
        chance(x, 0, 1, 1);
        chance(x, 1, 7, 10);
        chance(x, 2, 49, 100);
        chance(x, 4, 2401, 10000);
        DUE.is("odds(5, 0)", x.odds(5, 0), -1);
        DUE.is("odds(-1, 0)", x.odds(-1, 0), -1);
        DUE.is("odds(1, 2)", x.odds(1, 2), -1);
        DUE.is("odds(1, -1)", x.odds(1, -1), -1);
        x = Due.told("luck 99;");
        chance(x, 4, 1, 100000000);
        x = Due.told("luck 100;");
        chance(x, 0, 1, 1);
        chance(x, 1, 0, 1);
        chance(x, 4, 0, 1);
        x = Due.told("luck 0;");
        chance(x, 3, 1, 1);
    }
}
