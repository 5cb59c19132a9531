/** The boundary cases of a table's text, of its faults, and of promises 1 to 8. */
final class TextEdges {
    private static final Due DUE = Edges.DUE;
    private static final String FIVE = "plate a;plate b;plate c;plate d;plate e;";
    private static final String[] KEYS = {"plate", "holds", "chute", "wide", "drain", "falls", "luck", "draw", "or", "and",
        "not", "grains", "brim", "number", "day"};

    private TextEdges() {
    }

    static void all(Edges e) {
        tokens(e);
        lines(e);
        limits(e);
        faults(e);
        tape(e);
        promises(e);
    }

    private static void tokens(Edges e) {
        e.of(0, "A TABLE is a text of at most 1,600 bytes", TextEdges::longestText);
        e.of(0, "(empty at first)", TextEdges::emptyAtFirst);
        e.of(0, "table = {line}", TextEdges::noLine);
        e.of(0, "words (a .. z,", TextEdges::lettersOfWords);
        e.of(0, "8 at most)", TextEdges::lengthOfWords);
        e.of(0, "N (1 to 4 digits)", TextEdges::lengthOfNumbers);
        e.of(0, "signs ; ( ) < > = + - * / %;", TextEdges::everyByte);
        e.of(0, "blanks (32, 10)", TextEdges::blanks);
        e.of(0, "part them or not;", TextEdges::noBlanks);
        e.of(0, "each is as long as can be;", TextEdges::asLongAsCanBe);
        e.of(0, "no letter directly behind an N.", TextEdges::letterBehindNumber);
        e.of(0, "Words that stand for themselves here are no NAMES.", TextEdges::wordsAreNoNames);
    }

    private static void lines(Edges e) {
        e.of(0, "line = plate NAME [holds N] ;", TextEdges::plateLines);
        e.of(0, "chute NAME NAME [wide N] ;", TextEdges::chuteLines);
        e.of(0, "drain NAME [wide N] ;", TextEdges::drainLines);
        e.of(0, "falls e ; | luck N ; | draw N ;.", TextEdges::otherLines);
        e.of(0, "e = both {or both}. both = one {and one}.", TextEdges::orAnd);
        e.of(0, "one = not one | sum [(< | > | =) sum].", TextEdges::oneRelation);
        e.of(0, "sum = term {(+ | -) term}. term = unit {(* | / | %) unit}.", TextEdges::sumsOfTerms);
        e.of(0, "unit = N | grains | brim | number | day | ( e ).", TextEdges::unitForms);
    }

    private static void limits(Edges e) {
        e.of(0, "At most 5 PLATES", TextEdges::fivePlates);
        e.of(0, "(holds 0 .. 99;", TextEdges::holds);
        e.of(0, "0 if not told), numbered as told;", TextEdges::holdsNotTold);
        e.of(0, "CHUTES of two PLATES told ahead,", TextEdges::chuteToldAhead);
        e.of(0, "unlike,", TextEdges::chuteOfUnlikeOnes);
        e.of(0, "each two once in whatever order", TextEdges::chuteOnce);
        e.of(0, "(wide 1 .. 2;", TextEdges::chuteWidth);
        e.of(0, "1 if not told);", TextEdges::chuteWidthNotTold);
        e.of(0, "to the DRAIN of a PLATE told ahead,", TextEdges::drainToldAhead);
        e.of(0, "each once (wide likewise);", TextEdges::drainOnceAndWidth);
        e.of(0, "falls, luck (0 .. 100 of 100; 0),", TextEdges::luckNumbers);
        e.of(0, "draw (0 .. 999; 0)", TextEdges::drawNumbers);
        e.of(0, "once each;", TextEdges::onceEach);
        e.of(0, "60 units in all, 30 in one e", TextEdges::thirtyUnits);
        e.of(0, "(a unit ( e ),", TextEdges::sevenBrackets);
        e.of(0, "or a one behind not, within 6 others at most).", TextEdges::sevenNots);
    }

    private static void faults(Edges e) {
        e.of(0, "FAULTS, the first by its place", TextEdges::firstByPlace);
        e.of(0, "(bytes from 0; the end: the text's length),", TextEdges::placeOfTheEnd);
        e.of(0, "at one place the least:", TextEdges::leastAtOnePlace);
        e.of(0, "1 no TOKEN;", TextEdges::noToken);
        e.of(0, "2 one that can't stand there", TextEdges::cannotStand);
        e.of(0, "(a plate too many,", TextEdges::plateTooMany);
        e.of(0, "falls, luck, draw a second time: at the line's first word;", TextEdges::secondTime);
        e.of(0, "a unit too many,", TextEdges::unitTooMany);
        e.of(0, "what is within 7 others: at its first TOKEN, or the not);", TextEdges::withinSeven);
        e.of(0, "3 a NAME told already,", TextEdges::nameToldAlready);
        e.of(0, "a CHUTE from a PLATE to itself,", TextEdges::chuteToItself);
        e.of(0, "or of two told already (at the second NAME),", TextEdges::chuteToldAlready);
        e.of(0, "a PLATE with a CHUTE to the DRAIN already;", TextEdges::drainToldAlready);
        e.of(0, "4 a number that can't be;", TextEdges::numberThatCannotBe);
        e.of(0, "5 a NAME that no PLATE has;", TextEdges::nameOfNoPlate);
        e.of(0, "6 (at the end, if there is no other)", TextEdges::noWayComesLast);
        e.of(0, "a PLATE from which no CHUTES lead to the DRAIN, over others or not.", TextEdges::noWay);
    }

    private static void tape(Edges e) {
        e.of(1, "An empty TABLE.", TextEdges::newObject);
        e.of(2, "Twenty bytes come behind those on the TAPE,", TextEdges::feedBehind);
        e.of(2, "of each number the highest first:", TextEdges::highestFirst);
        e.of(2, "how many there are;", TextEdges::feedCounts);
        e.of(2, "NONE, and nothing comes, if there would be more than 1,600.", TextEdges::feedTooMuch);
        e.of(3, "The TAPE has its first n bytes: n;", TextEdges::endCuts);
        e.of(3, "NONE, doing nothing, if it has not so many,", TextEdges::endTooFar);
        e.of(3, "or n is below 0.", TextEdges::endBelow);
    }

    private static void promises(Edges e) {
        e.of(4, "The TAPE (empty then) is the TABLE", TextEdges::tapeIsEmptyThen);
        e.of(4, "(all as told, the DRAIN empty, day 0,", TextEdges::allAsTold);
        e.of(4, "no ACTS are kept,", TextEdges::tableForgetsActs);
        e.of(4, "nothing is SEEN,", TextEdges::tableForgetsSeen);
        e.of(4, "nothing lies there,", TextEdges::tableClearsLying);
        e.of(4, "BOXES are empty then;", TextEdges::tableEmptiesBoxes);
        e.of(4, "the TIME stays):", TextEdges::timeStays);
        e.of(4, "how many PLATES;", TextEdges::tableCountsPlates);
        e.of(4, "NONE: a FAULT (all stays).", TextEdges::allStaysBehindFault);
        e.of(5, "Of the latest table()", TextEdges::latestTable);
        e.of(5, "what 0: its FAULT (0),", TextEdges::noFault);
        e.of(5, "1: its place (NONE).", TextEdges::noPlace);
        e.of(5, "NONE for another what.", () -> {
            SandPlates x = Due.told("plate a;drain a;");
            Due.write(x, "plate");
            x.table();
            Edges.only("fault", 0, 1, -1, x::fault);
        });
        e.of(6, "what 0: grains, 1: BRIM,", TextEdges::leastAndGreatestBrim);
        e.of(6, "2: how wide its CHUTE to the DRAIN is (0: none),", TextEdges::noChuteToDrain);
        e.of(6, "3: PLATES to which it has a CHUTE, as bits;", TextEdges::joinedBits);
        e.of(6, "NONE if there is none such,", () -> {
            for (int what = 0; what <= 3; what++) {
                int which = what;
                Edges.onlyPlates("plate by " + what, (x, plate) -> x.plate(plate, which));
            }
        });
        e.of(6, "or for another what.", () -> Edges.only("plate(0, what)", 0, 3, -1,
            what -> Due.told("plate a;drain a;").plate(0, what)));
        e.of(7, "(0: none, both are one);", TextEdges::noChute);
        e.of(7, "NONE if one can't be.", () -> {
            Edges.onlyPlates("wide of the first", (x, plate) -> x.wide(plate, 0));
            Edges.onlyPlates("wide of the other", (x, plate) -> x.wide(0, plate));
            Edges.onlyPlates("wide of both", (x, plate) -> x.wide(plate, plate));
        });
        e.of(8, "The fewest CHUTES from a PLATE to the DRAIN;", TextEdges::fewestChutes);
        e.of(8, "NONE if there is none such.", () -> Edges.onlyPlates("far", SandPlates::far));
    }

    // ---- what all these ask

    private static void bad(String text, int fault, int place) {
        SandPlates x = new SandPlates();
        Due.write(x, text);
        String shown = text.length() > 60 ? text.substring(0, 60) + " .." : text;
        DUE.is("table of " + shown, x.table(), -1);
        DUE.is("fault(0) of " + shown, x.fault(0), fault);
        DUE.is("fault(1) of " + shown, x.fault(1), place);
    }

    private static SandPlates good(String text, int plates) {
        SandPlates x = new SandPlates();
        Due.write(x, text);
        int got = x.table();
        DUE.is("table of " + text + " (fault " + x.fault(0) + " at " + x.fault(1) + ")", got, plates);
        return x;
    }

    /** The same text behind others: a good one, two of them, one with a fault that it comes to at its end, and both. */
    private static SandPlates[] behind(String earlier, String text) {
        String[][] runs = {{earlier, text}, {earlier, earlier, text}, {earlier + "?", text}, {earlier, earlier + "?", text},
            {earlier, text, earlier, text}};
        SandPlates[] all = new SandPlates[runs.length];
        for (int i = 0; i < runs.length; i++) {
            all[i] = new SandPlates();
            for (String one : runs[i]) {
                Due.write(all[i], one);
                all[i].table();
            }
            DUE.is("fault of " + text + " behind others", all[i].fault(0), 0);
        }
        return all;
    }

    private static String padded(String text, int length) {
        return text + " ".repeat(length - text.length());
    }

    // ---- tokens

    private static void longestText() {
        SandPlates x = good(padded("luck 7;", 1593) + "draw 9;", 0);
        DUE.is("luck at the start", x.about(13), 7);
        DUE.is("draw at the end", x.about(5), 9);
        bad(padded("luck 7;", 1599) + "?", 1, 1599);
        bad(padded("luck 7;", 1594) + "draw 9", 2, 1600);
        SandPlates full = new SandPlates();
        Due.write(full, padded("", 1600));
        DUE.is("bytes", full.about(10), 1600);
        DUE.is("blanks alone", full.table(), 0);
    }

    private static void emptyAtFirst() {
        SandPlates x = new SandPlates();
        DUE.is("plates", x.about(0), 0);
        DUE.is("chutes", x.about(1), 0);
        DUE.is("units", x.about(11), 0);
        DUE.is("bytes", x.about(10), 0);
        DUE.is("many", x.many(), 1);
    }

    private static void noLine() {
        good("", 0);
        good(" ", 0);
        good("\n", 0);
        bad(";", 2, 0);
    }

    private static void lettersOfWords() {
        good("plate az;drain az;", 1);
        good("plate za;drain za;", 1);
        bad("plate `;", 1, 6);
        bad("plate {;", 1, 6);
        bad("plate A;", 1, 6);
        bad("plate Z;", 1, 6);
        bad("plate a`;", 1, 7);
        bad("plate z{;", 1, 7);
        bad("plate aA;", 1, 7);
        bad("plate a1;", 2, 7);
        bad("plate " + (char) 225 + ";", 1, 6);
    }

    private static void lengthOfWords() {
        good("plate a;drain a;", 1);
        good("plate abcdefgh;drain abcdefgh;", 1);
        bad("plate abcdefghi;", 1, 6);
        bad("plate abcdefgh;drain abcdefghi;", 1, 21);
        bad("plate abcdefgh;drain abcdefgi;", 5, 21);
        bad("plate abcdefgh;drain abcdefg;", 5, 21);
        bad("a".repeat(1600), 1, 0);
        // Letters that all the room of a long would not hold are no word that is told already.
        bad("plate a;plate " + "a".repeat(64) + ";", 1, 14);
    }

    private static void lengthOfNumbers() {
        DUE.is("one digit", good("luck 0;", 0).about(13), 0);
        DUE.is("one digit", good("luck 9;", 0).about(13), 9);
        DUE.is("four digits", good("luck 0009;", 0).about(13), 9);
        DUE.is("the greatest number", good("falls 9999;", 0).about(11), 1);
        bad("luck 00009;", 1, 5);
        bad("falls 10000;", 1, 6);
        bad("luck 4294967296;", 1, 5);
        bad("falls 1+00000;", 1, 8);
        bad("0".repeat(1600), 1, 0);
        bad("luck :;", 1, 5);
        bad("luck /;", 2, 5);
    }

    /** A text of one byte: a blank is no TOKEN and no FAULT, what begins a TOKEN can't stand there alone. */
    private static void everyByte() {
        String tokens = ";()<>=+-*/%0123456789abcdefghijklmnopqrstuvwxyz";
        for (int c = 0; c < 256; c++) {
            SandPlates x = new SandPlates();
            Due.write(x, String.valueOf((char) c));
            boolean blank = c == 32 || c == 10;
            DUE.is("the byte " + c, x.table(), blank ? 0 : -1);
            DUE.is("fault(0) of the byte " + c, x.fault(0), blank ? 0 : tokens.indexOf(c) >= 0 ? 2 : 1);
            DUE.is("fault(1) of the byte " + c, x.fault(1), blank ? -1 : 0);
        }
    }

    private static void blanks() {
        good("\n \nplate\n\na  holds \n 9 ; \n drain\na\nwide\n1\n;\n", 1);
        for (int c : new int[] {0, 9, 11, 12, 13, 31, 33, 127, 160, 255}) {
            bad("plate" + (char) c + "a;", 1, 5);
            bad("plate a;drain a;" + (char) c, 1, 16);
        }
    }

    private static void noBlanks() {
        SandPlates x = good("plate a holds7;plate b;chute a b wide2;drain b;falls(1+2)*brim;luck5;draw6;", 2);
        DUE.is("holds7", x.plate(0, 0), 7);
        DUE.is("wide2", x.wide(0, 1), 2);
        DUE.is("falls(", x.about(11), 4);
        DUE.is("luck5", x.about(13), 5);
        DUE.is("draw6", x.about(5), 6);
        good("falls not(1)and(2)or(3);", 0);
    }

    private static void asLongAsCanBe() {
        bad("platea;", 2, 0);
        bad("plat e;", 2, 0);
        bad("plate a holds9;drain awide 2;", 5, 21);
        bad("falls dayday;", 2, 6);
        bad("falls notnot 1;", 2, 6);
        bad("falls daynumber;", 1, 6);
        bad("plate a;drain a wide 12;", 4, 21);
        DUE.is("12 is one number", good("luck 12;", 0).about(13), 12);
        DUE.is("days is a name", good("plate days;drain days;", 1).about(0), 1);
    }

    private static void letterBehindNumber() {
        bad("luck 5a;", 1, 5);
        bad("luck 5a", 1, 5);
        bad("luck 0005z;", 1, 5);
        bad("falls 1or 2;", 1, 6);
        bad("falls 1+2and 2;", 1, 8);
        good("falls 1 or2;", 0);
        good("falls 1\nor 2;", 0);
        good("falls(1)or(2);", 0);
        bad("luck 5 a;", 2, 7);
        bad("luck 5\na;", 2, 7);
        bad("luck 5A;", 1, 6);
        // What stands on the tape behind its end is not behind the number.
        SandPlates x = new SandPlates();
        Due.write(x, "luck 5;luck 6a");
        x.end(7);
        DUE.is("the letter is cut off", x.table(), 0);
        Due.write(x, "luck 5a");
        x.end(6);
        x.table();
        DUE.is("fault(0) of a cut text", x.fault(0), 2);
        DUE.is("fault(1) of a cut text", x.fault(1), 6);
    }

    private static void wordsAreNoNames() {
        for (String key : KEYS) {
            bad("plate " + key + ";", 2, 6);
            bad("plate a;drain " + key + ";", 2, 14);
            bad("plate a;chute " + key + " a;", 2, 14);
            bad("plate a;chute a " + key + ";", 2, 16);
            good("plate " + key + "s;drain " + key + "s;", 1);
        }
        for (String name : new String[] {"table", "line", "e", "both", "one", "sum", "term", "unit", "name", "plates", "n",
            "hold", "plat", "o", "no", "an", "da"}) {
            good("plate " + name + ";drain " + name + ";", 1);
        }
    }

    // ---- lines

    private static void plateLines() {
        bad("plate", 2, 5);
        bad("plate;", 2, 5);
        bad("plate a", 2, 7);
        bad("plate a b;", 2, 8);
        bad("plate a holds;", 2, 13);
        bad("plate a holds b;", 2, 14);
        bad("plate a holds 1 2;", 2, 16);
        bad("plate a holds 1 holds 2;", 2, 16);
        bad("plate a wide 1;", 2, 8);
        bad("plate a 1;", 2, 8);
        bad("plate 1;", 2, 6);
    }

    private static void chuteLines() {
        String two = "plate a;plate b;";
        bad(two + "chute", 2, 21);
        bad(two + "chute;", 2, 21);
        bad(two + "chute a;", 2, 23);
        bad(two + "chute a", 2, 23);
        bad(two + "chute a b", 2, 25);
        bad(two + "chute a b a;", 2, 26);
        bad(two + "chute a b wide;", 2, 30);
        bad(two + "chute a b wide b;", 2, 31);
        bad(two + "chute a b 1;", 2, 26);
        bad(two + "chute a b holds 1;", 2, 26);
        bad(two + "chute a b wide 1 1;", 2, 33);
        bad(two + "chute a b wide 1 wide 1;", 2, 33);
    }

    private static void drainLines() {
        bad("plate a;drain", 2, 13);
        bad("plate a;drain;", 2, 13);
        bad("plate a;drain a", 2, 15);
        bad("plate a;drain a a;", 2, 16);
        bad("plate a;drain a wide;", 2, 20);
        bad("plate a;drain a wide a;", 2, 21);
        bad("plate a;drain a 1;", 2, 16);
        bad("plate a;drain a holds 1;", 2, 16);
        bad("plate a;drain a wide 1 1;", 2, 23);
    }

    private static void otherLines() {
        bad("falls", 2, 5);
        bad("falls;", 2, 5);
        bad("falls 1", 2, 7);
        bad("falls 1 2;", 2, 8);
        bad("luck", 2, 4);
        bad("luck;", 2, 4);
        bad("luck 1", 2, 6);
        bad("luck 1 1;", 2, 7);
        bad("luck a;", 2, 5);
        bad("luck (1);", 2, 5);
        bad("draw", 2, 4);
        bad("draw;", 2, 4);
        bad("draw 1", 2, 6);
        bad("draw 1+1;", 2, 6);
        bad("draw brim;", 2, 5);
        bad("wide 1;", 2, 0);
        bad("a 1;", 2, 0);
        bad("1;", 2, 0);
        bad("luck 1;;", 2, 7);
    }

    private static void orAnd() {
        bad("falls or;", 2, 6);
        bad("falls 1 or;", 2, 10);
        bad("falls 1 or or 1;", 2, 11);
        bad("falls 1 and;", 2, 11);
        bad("falls 1 and or 1;", 2, 12);
        bad("falls and 1;", 2, 6);
        good("falls 1 and 2 or 3 and 4 or 5;", 0);
    }

    private static void oneRelation() {
        bad("falls not;", 2, 9);
        bad("falls 1 not 1;", 2, 8);
        bad("falls 1 + not 1;", 2, 10);
        bad("falls 1 < not 1;", 2, 10);
        bad("falls 1 <;", 2, 9);
        bad("falls < 1;", 2, 6);
        bad("falls 1 < 2 < 3;", 2, 12);
        bad("falls 1 < 2 = 1;", 2, 12);
        bad("falls 1 > 2 > 3;", 2, 12);
        bad("falls 1 <= 2;", 2, 9);
        bad("falls 1 == 2;", 2, 9);
        good("falls (1 < 2) < 3;", 0);
        good("falls not 1 < 2;", 0);
        good("falls not not 1 = 2 and not 3;", 0);
    }

    private static void sumsOfTerms() {
        bad("falls - 1;", 2, 6);
        bad("falls + 1;", 2, 6);
        bad("falls 1 +;", 2, 9);
        bad("falls 1 + + 1;", 2, 10);
        bad("falls 1 * - 1;", 2, 10);
        bad("falls * 1;", 2, 6);
        bad("falls 1 /;", 2, 9);
        bad("falls 1 % % 1;", 2, 10);
        good("falls 1+2-3+4*5/6%7;", 0);
    }

    private static void unitForms() {
        DUE.is("each form once", good("falls 1+grains+brim+number+day+(1);", 0).about(11), 7);
        bad("falls a;", 2, 6);
        bad("falls plate;", 2, 6);
        bad("falls ();", 2, 7);
        bad("falls (1;", 2, 8);
        bad("falls (1", 2, 8);
        bad("falls 1);", 2, 7);
        bad("falls (1));", 2, 9);
        bad("falls (;", 2, 7);
        bad("falls );", 2, 6);
    }

    // ---- limits

    private static void fivePlates() {
        SandPlates x = good(FIVE + "drain a;drain b;drain c;drain d;drain e;", 5);
        DUE.is("the last one", x.plate(4, 1), 1);
        bad(FIVE + "plate f;", 2, 40);
        good("plate a;drain a;", 1);
        good("", 0);
    }

    private static void holds() {
        DUE.is("holds 0", good("plate a holds 0;drain a;", 1).plate(0, 0), 0);
        DUE.is("holds 99", good("plate a holds 99;drain a;", 1).plate(0, 0), 99);
        bad("plate a holds 100;drain a;", 4, 14);
        bad("plate a holds 9999;drain a;", 4, 14);
    }

    private static void holdsNotTold() {
        SandPlates x = good("plate c holds 9;plate a;plate b holds 7;drain b;drain a;drain c;", 3);
        Edges.heap("as told", x, 9, 0, 7);
        for (SandPlates y : behind("plate c holds 9;plate a holds 8;drain c;drain a;", "plate a;plate b;drain a;drain b;")) {
            Edges.heap("what earlier tables held is no more there", y, 0, 0);
        }
    }

    private static void chuteToldAhead() {
        good("plate a;plate b;chute a b;drain a;", 2);
        bad("plate a;chute a b;plate b;drain a;", 5, 16);
        bad("plate b;chute a b;plate a;drain a;", 5, 14);
        bad("chute a b;plate a;plate b;drain a;", 5, 6);
    }

    private static void chuteOfUnlikeOnes() {
        bad("plate a;plate b;chute b b;drain a;drain b;", 3, 24);
        good("plate a;plate b;chute b a;drain a;", 2);
    }

    private static void chuteOnce() {
        bad("plate a;plate b;drain a;chute a b;chute a b;", 3, 42);
        bad("plate a;plate b;drain a;chute a b;chute b a;", 3, 42);
        bad("plate a;plate b;drain a;chute b a wide 2;chute a b wide 1;", 3, 49);
        StringBuilder all = new StringBuilder(FIVE + "drain a;");
        for (char c = 'a'; c <= 'e'; c++) {
            for (char d = 'a'; d < c; d++) {
                all.append("chute ").append(c).append(' ').append(d).append(';');
            }
        }
        DUE.is("all ten, and one to the drain", good(all.toString(), 5).about(1), 11);
        for (SandPlates x : behind(all.toString(), "plate a;plate b;plate c;drain a;drain b;drain c;chute b a;")) {
            DUE.is("told by earlier tables alone", x.wide(0, 2), 0);
            DUE.is("told again", x.wide(0, 1), 1);
            DUE.is("brim", x.plate(2, 1), 1);
            DUE.is("chutes", x.about(1), 4);
        }
    }

    private static void chuteWidth() {
        String two = "plate a;plate b;drain a;chute a b wide ";
        DUE.is("wide 1", good(two + "1;", 2).wide(1, 0), 1);
        DUE.is("wide 2", good(two + "2;", 2).wide(1, 0), 2);
        bad(two + "0;", 4, 39);
        bad(two + "3;", 4, 39);
        bad(two + "9999;", 4, 39);
    }

    private static void chuteWidthNotTold() {
        SandPlates x = good("plate a;plate b;plate c;drain a;chute a b;chute b c wide 2;", 3);
        DUE.is("not told", x.wide(0, 1), 1);
        DUE.is("told", x.wide(1, 2), 2);
    }

    private static void drainToldAhead() {
        bad("drain a;plate a;", 5, 6);
        bad("plate a;drain b;plate b;drain a;", 5, 14);
        good("plate a;drain a;plate b;drain b;", 2);
    }

    private static void drainOnceAndWidth() {
        bad("plate a;drain a;drain a;", 3, 22);
        bad("plate a;drain a wide 2;drain a wide 1;", 3, 29);
        DUE.is("not told", good("plate a;drain a;", 1).plate(0, 2), 1);
        DUE.is("wide 1", good("plate a;drain a wide 1;", 1).plate(0, 2), 1);
        DUE.is("wide 2", good("plate a;drain a wide 2;", 1).plate(0, 2), 2);
        bad("plate a;drain a wide 0;", 4, 21);
        bad("plate a;drain a wide 3;", 4, 21);
        for (SandPlates x : behind("plate a;drain a;plate b;drain b wide 2;", "plate a;drain a wide 2;plate b;chute a b;")) {
            DUE.is("told again", x.plate(0, 2), 2);
            DUE.is("told by earlier tables alone", x.plate(1, 2), 0);
            DUE.is("far", x.far(1), 2);
        }
    }

    private static void luckNumbers() {
        DUE.is("not told", good("", 0).about(13), 0);
        DUE.is("luck 0", good("luck 0;", 0).about(13), 0);
        DUE.is("luck 100", good("luck 100;", 0).about(13), 100);
        bad("luck 101;", 4, 5);
        bad("luck 9999;", 4, 5);
        for (SandPlates x : behind("luck 100;", "draw 1;")) {
            DUE.is("told by earlier tables alone", x.about(13), 0);
        }
    }

    private static void drawNumbers() {
        DUE.is("not told", good("", 0).about(5), 0);
        DUE.is("draw 0", good("draw 0;", 0).about(5), 0);
        DUE.is("draw 999", good("draw 999;", 0).about(5), 999);
        bad("draw 1000;", 4, 5);
        bad("draw 9999;", 4, 5);
        for (SandPlates x : behind("draw 999;", "luck 1;")) {
            DUE.is("told by earlier tables alone", x.about(5), 0);
        }
    }

    private static void onceEach() {
        good("falls 1;luck 1;draw 1;", 0);
        good("draw 1;luck 1;falls 1;", 0);
        bad("falls 1;falls 1;", 2, 8);
        bad("luck 0;luck 0;", 2, 7);
        bad("draw 0;draw 0;", 2, 7);
        for (SandPlates x : behind("falls 1;luck 1;draw 1;", "plate a;drain a;falls 2;luck 2;draw 2;")) {
            DUE.is("once in each table", x.about(0), 1);
            DUE.is("what falls", x.day(), 2);
        }
    }

    private static String sum(int units) {
        return "falls 1" + "+1".repeat(units - 1);
    }

    private static void thirtyUnits() {
        DUE.is("one", good(sum(1) + ";", 0).about(11), 1);
        DUE.is("29", good(sum(29) + ";", 0).about(11), 29);
        DUE.is("30", good(sum(30) + ";", 0).about(11), 30);
        bad(sum(31) + ";", 2, 66);
        DUE.is("30 by and", good("falls 1" + " and 1".repeat(29) + ";", 0).about(11), 30);
        bad("falls 1" + " and 1".repeat(30) + ";", 2, 6 + 6 * 30);
        DUE.is("30 by or", good("falls 1" + " or 1".repeat(29) + ";", 0).about(11), 30);
        DUE.is("30 by *", good("falls 1" + "*1".repeat(29) + ";", 0).about(11), 30);
        DUE.is("30 with those in ( e )", good("falls " + "(1)+".repeat(14) + "(1);", 0).about(11), 30);
        bad("falls " + "(1)+".repeat(15) + "1;", 2, 66);
        for (SandPlates x : behind(sum(30) + ";", sum(30) + ";")) {
            DUE.is("each table has its own", x.about(11), 30);
        }
        for (SandPlates x : behind(sum(30) + ";", "plate a;drain a;")) {
            DUE.is("none", x.about(11), 0);
            DUE.is("nothing falls", x.day(), 0);
        }
        // As many are open at once as can be: 26 of them, 4 ( e ).
        String deep = "0 or 1 and 1 < 1 + 1 * ";
        SandPlates x = good("plate a;drain a;falls " + (deep + "(").repeat(4) + deep + "1" + ")".repeat(4) + ";", 1);
        DUE.is("30 units", x.about(11), 30);
        DUE.is("1 comes of them", x.day(), 1);
    }

    private static void sevenBrackets() {
        for (int deep = 1; deep <= 7; deep++) {
            good("falls " + "(".repeat(deep) + "1" + ")".repeat(deep) + ";", 0);
        }
        bad("falls " + "(".repeat(8) + "1" + ")".repeat(8) + ";", 2, 13);
        good("falls (((((((1)))))))+(((((((1)))))));", 0);
        bad("falls (((((((1)))))))+((((((((1))))))));", 2, 29);
        // A unit without brackets may be within 7 of them.
        good("falls (((((((grains+brim)))))));", 0);
    }

    private static void sevenNots() {
        for (int deep = 1; deep <= 7; deep++) {
            good("falls " + "not ".repeat(deep) + "1;", 0);
        }
        bad("falls " + "not ".repeat(8) + "1;", 2, 34);
        good("falls not not not not (((1)));", 0);
        bad("falls not not not not ((((1))));", 2, 25);
        good("falls (((not not not not 1)));", 0);
        bad("falls (((not not not not not 1)));", 2, 25);
        good("falls not not not not not not not 1 and not not not not not not not 1;", 0);
        good("falls not not not not not not not 1 < 2;", 0);
        // As many as there can be at all: seven ahead of each of 30 units.
        String most = "plate a;drain a;falls " + ("not ".repeat(7) + "1 or ").repeat(29) + "not ".repeat(7);
        DUE.is("0 comes of them", good(most + "1;", 1).day(), 0);
        DUE.is("1 comes of them", good(most + "0;", 1).day(), 1);
    }

    // ---- faults

    private static void firstByPlace() {
        bad("plate a;drain b;luck 101;?", 5, 14);
        bad("plate a;luck 101;drain b;?", 4, 13);
        bad("?plate a;luck 101;drain b;", 1, 0);
        bad("plate a;plate a;drain b;luck 101;", 3, 14);
        bad("plate a;luck;drain b;luck 101;", 2, 12);
        // A fault behind another one is not told, though its number is less.
        bad("plate a;drain a wide 3 ?", 4, 21);
        bad("plate a;drain b ?", 5, 14);
    }

    private static void placeOfTheEnd() {
        bad("plate a", 2, 7);
        bad("plate a   ", 2, 10);
        bad("plate a\n\n", 2, 9);
        bad("plate", 2, 5);
        bad("plate a;", 6, 8);
        bad("plate a; \n", 6, 10);
        bad("?", 1, 0);
        bad("luck 1;?", 1, 7);
        bad(padded("plate a;", 1600), 6, 1600);
    }

    private static void leastAtOnePlace() {
        bad("plate ?;", 1, 6);
        bad("luck 00101;", 1, 5);
        bad("luck 101a;", 1, 5);
        bad("plate a;drain abcdefghi;", 1, 14);
        bad("plate a;plate a1;", 3, 14);
        bad(sum(30) + "+?;", 1, 66);
        bad(sum(30) + "+12345;", 1, 66);
        bad("falls (((((((?", 1, 13);
        bad(FIVE + "?", 1, 40);
        bad("plate a", 2, 7);
        bad("plate a;chute a a;", 3, 16);
        bad("plate a;chute b b;", 5, 14);
    }

    private static void noToken() {
        bad("#", 1, 0);
        bad("plate a;#", 1, 8);
        bad("plate a#;", 1, 7);
        bad("falls 1#2;", 1, 7);
        bad("falls 1 ! 2;", 1, 8);
        bad("luck 1.5;", 1, 6);
        bad("plate a,b;", 1, 7);
        bad("plate " + (char) 0 + ";", 1, 6);
    }

    private static void cannotStand() {
        bad("holds 1;", 2, 0);
        bad("plate a holds 5 5;", 2, 16);
        bad("plate a drain a;", 2, 8);
        bad("plate a)", 2, 7);
        bad("luck 5+5;", 2, 6);
        bad("luck 5 luck", 2, 7);
    }

    private static void plateTooMany() {
        bad(FIVE + "plate f;", 2, 40);
        bad(FIVE + "plate", 2, 40);
        bad(FIVE + " plate a;", 2, 41);
        bad(FIVE + "plate ?", 2, 40);
        bad(FIVE + "drain a; plate f;drain b;", 2, 49);
    }

    private static void secondTime() {
        bad("falls 1; falls 2;", 2, 9);
        bad("luck 1; luck 101;", 2, 8);
        bad("draw 1; draw ?", 2, 8);
        bad("falls 1;luck 1;draw 1;falls", 2, 22);
        bad("falls 1;luck 1;draw 1;luck", 2, 22);
        bad("falls 1;luck 1;draw 1;draw", 2, 22);
    }

    private static void unitTooMany() {
        bad(sum(30) + "+ 1;", 2, 67);
        bad(sum(30) + "+ (1);", 2, 67);
        bad(sum(30) + "+day;", 2, 66);
        bad(sum(30) + "+ not 1;", 2, 67);
        bad(sum(29) + "+(1);", 2, 65);
        bad(sum(29) + "+((1));", 2, 65);
        bad(sum(28) + "+((1));", 2, 64);
        good(sum(28) + "+(1);", 0);
        // The not itself can stand there, the unit behind it can't.
        bad(sum(30) + " or not 1;", 2, 6 + 59 + 8);
    }

    private static void withinSeven() {
        bad("falls ((((((( ( 1))))))));", 2, 14);
        bad("falls not not not not not not not  not 1;", 2, 35);
        bad("falls not not not not not not not (1);", 2, 34);
        bad("falls (((((((not 1)))))));", 2, 13);
        bad("falls (((((((1+(1))))))));", 2, 15);
        bad("falls (((((((1 and not 1)))))));", 2, 19);
        good("falls (((((((1 and 1)))))));", 0);
        bad("falls ((((((((", 2, 13);
    }

    private static void nameToldAlready() {
        bad("plate a;plate a;", 3, 14);
        bad("plate a;plate b;plate  b;", 3, 23);
        bad("plate abcdefgh;plate abcdefgh;", 3, 21);
        good("plate a;plate aa;drain a;drain aa;", 2);
        for (SandPlates x : behind("plate a;drain a;", "plate a;drain a;")) {
            DUE.is("told by earlier tables alone", x.about(0), 1);
        }
    }

    private static void chuteToItself() {
        bad("plate a;chute a a;", 3, 16);
        bad("plate a;chute a  a wide 3;", 3, 17);
        bad(FIVE + "chute e e;", 3, 48);
    }

    private static void chuteToldAlready() {
        bad("plate a;plate b;chute a b;chute a b wide 3;", 3, 34);
        bad("plate a;plate b;chute a b;chute b a;", 3, 34);
        bad("plate a;plate b;plate c;chute a c;chute b c;chute c  a;", 3, 53);
    }

    private static void drainToldAlready() {
        bad("plate a;drain a;drain a wide 3;", 3, 22);
        bad("plate a;plate b;drain a;drain b;drain  b;", 3, 39);
    }

    private static void numberThatCannotBe() {
        bad("plate a holds 100;", 4, 14);
        bad("plate a;drain a wide 0;", 4, 21);
        bad("plate a;plate b;chute a b wide 0;", 4, 31);
        bad("luck 101;", 4, 5);
        bad("draw 1000;", 4, 5);
        bad("luck 0101;", 4, 5);
        good("falls 9999;", 0);
    }

    private static void nameOfNoPlate() {
        bad("drain a;", 5, 6);
        bad("plate a;drain b;", 5, 14);
        bad("plate a;chute b a;", 5, 14);
        bad("plate a;chute a b;", 5, 16);
        bad("plate a;drain aa;", 5, 14);
        // A name of the table before, or of one with a fault, is no name of this one.
        for (SandPlates x : behind("plate b;plate a;drain b;drain a;", "plate b;drain b;")) {
            Due.write(x, "plate b;drain a;");
            DUE.is("a name of earlier tables", x.table(), -1);
            DUE.is("fault(0)", x.fault(0), 5);
            DUE.is("fault(1)", x.fault(1), 14);
        }
    }

    private static void noWayComesLast() {
        bad("plate a;luck 1", 2, 14);
        bad("plate a;luck 101;", 4, 13);
        bad("plate a;drain b;", 5, 14);
        bad("plate a;?", 1, 8);
        bad("plate a;plate a;", 3, 14);
        bad("plate a;luck 1;", 6, 15);
    }

    private static void noWay() {
        bad("plate a;", 6, 8);
        bad("plate a;plate b;chute a b;", 6, 26);
        bad("plate a;plate b;drain a;", 6, 24);
        bad("plate a;plate b;plate c;chute a b;drain c;", 6, 42);
        bad(FIVE + "drain a;chute a b;chute c d;chute d e;", 6, 78);
        good("plate a;plate b;drain a;chute a b;", 2);
        good("plate a;plate b;drain b;chute a b;", 2);
        good(FIVE + "drain e;chute a b;chute b c;chute c d;chute d e;", 5);
        good("", 0);
        for (SandPlates x : behind("plate a;plate b;drain a;drain b;chute a b;", "plate a;drain a;")) {
            Due.write(x, "plate a;plate b;drain a;");
            DUE.is("by chutes of earlier tables", x.table(), -1);
            DUE.is("fault(0)", x.fault(0), 6);
        }
    }

    // ---- the tape

    private static void newObject() {
        SandPlates x = new SandPlates();
        for (int what = 0; what <= 13; what++) {
            DUE.is("about(" + what + ")", x.about(what), 0);
        }
        DUE.is("all is settled", x.about(14), 1);
        DUE.is("undo", x.undo(), false);
        DUE.is("redo", x.redo(), false);
        for (int box = 0; box < 3; box++) {
            DUE.is("box " + box, x.back(box), -1);
        }
        Edges.lie(x);
        DUE.is("nothing on the tape", x.table(), 0);
    }

    private static void feedBehind() {
        SandPlates x = new SandPlates();
        x.feed(0x20202020, 0x20202020, 0x20202020, 0x20202020, 0x20206c75);
        x.feed(0x636b2039, 0x3b202020, 0x20202020, 0x20202020, 0x20202020);
        DUE.is("a word over two feeds", x.table(), 0);
        DUE.is("luck", x.about(13), 9);
        // Behind what was cut off, the first byte of the next twenty is the next one.
        x.feed(0x6c75636b, 0x20313020, 0x20202020, 0x20202020, 0x20202020);
        x.end(6);
        x.feed(0x353b2020, 0x20202020, 0x20202020, 0x20202020, 0x20202020);
        DUE.is("table", x.table(), 0);
        DUE.is("luck 1, then 5", x.about(13), 15);
    }

    private static void highestFirst() {
        SandPlates x = new SandPlates();
        x.feed(0x6c75636b, 0x20312020, 0x2020203b, 0x64726177, 0x2038383b);
        DUE.is("luck 1;draw 88;", x.table(), 0);
        DUE.is("luck", x.about(13), 1);
        DUE.is("draw", x.about(5), 88);
        // Bytes of a number below 0 are not below 0.
        for (int i = 0; i < 20; i++) {
            int[] n = {0x20202020, 0x20202020, 0x20202020, 0x20202020, 0x20202020};
            n[i / 4] = n[i / 4] & ~(255 << 24 - i % 4 * 8) | 0xff << 24 - i % 4 * 8;
            x.feed(n[0], n[1], n[2], n[3], n[4]);
            DUE.is("a byte 255 at " + i, x.table(), -1);
            DUE.is("fault(0) of it", x.fault(0), 1);
            DUE.is("fault(1) of it", x.fault(1), i);
        }
    }

    private static void feedCounts() {
        SandPlates x = new SandPlates();
        DUE.is("the first", x.feed(0, 0, 0, 0, 0), 20);
        DUE.is("the second", x.feed(-1, -1, -1, -1, -1), 40);
        x.end(1);
        DUE.is("behind one", x.feed(0, 0, 0, 0, 0), 21);
        x.end(0);
        DUE.is("behind none", x.feed(Edges.MIN, Edges.MAX, 0, 0, 0), 20);
    }

    private static SandPlates tapeOf(int bytes) {
        SandPlates x = Twins.rich();
        x.end(0);
        Due.write(x, padded("luck 8;draw 9;", bytes));
        return x;
    }

    private static void feedTooMuch() {
        SandPlates x = new SandPlates();
        for (int i = 1; i <= 80; i++) {
            DUE.is("feed " + i, x.feed(0x20202020, 0x20202020, 0x20202020, 0x20202020, 0x20202020), 20 * i);
        }
        for (int bytes : new int[] {1581, 1590, 1599, 1600}) {
            Twins.refused("feed behind " + bytes, () -> tapeOf(bytes), t -> t.feed(0, 0, 0, 0, 0), -1);
        }
        DUE.is("feed behind 1580", tapeOf(1580).feed(0, 0, 0, 0, 0), 1600);
        DUE.is("feed behind 1579", tapeOf(1579).feed(0, 0, 0, 0, 0), 1599);
    }

    private static void endCuts() {
        SandPlates x = new SandPlates();
        Due.write(x, padded("luck 1;luck 2;", 20));
        DUE.is("all of them", x.end(20), 20);
        DUE.is("bytes", x.about(10), 20);
        DUE.is("one fewer", x.end(19), 19);
        DUE.is("seven", x.end(7), 7);
        DUE.is("bytes", x.about(10), 7);
        DUE.is("no second luck is left", x.table(), 0);
        DUE.is("none of none", x.end(0), 0);
        x.feed(0, 0, 0, 0, 0);
        DUE.is("none of twenty", x.end(0), 0);
        DUE.is("an empty text", x.table(), 0);
        DUE.is("all of the most", tapeOf(1600).end(1600), 1600);
    }

    private static void endTooFar() {
        DUE.is("one of none", new SandPlates().end(1), -1);
        for (int n : new int[] {15, 20, 1600, 1601, Edges.MAX}) {
            Twins.refused("end(" + n + ") of 14", x -> x.end(n), -1);
        }
        Twins.refused("end(1601) of 1600", () -> tapeOf(1600), x -> x.end(1601), -1);
    }

    private static void endBelow() {
        DUE.is("of none", new SandPlates().end(-1), -1);
        for (int n : new int[] {-1, -14, -20, Edges.MIN}) {
            Twins.refused("end(" + n + ")", x -> x.end(n), -1);
        }
    }

    // ---- tables

    private static void tapeIsEmptyThen() {
        SandPlates x = Twins.rich();
        DUE.is("bytes ahead", x.about(10), 14);
        x.table();
        DUE.is("bytes behind", x.about(10), 0);
        DUE.is("one byte of none", x.end(1), -1);
        DUE.is("an empty tape is an empty table", x.table(), 0);
        DUE.is("luck", x.about(13), 0);
        Due.write(x, "?");
        DUE.is("a fault", x.table(), -1);
        DUE.is("bytes behind a fault", x.about(10), 0);
    }

    private static void allAsTold() {
        SandPlates x = Twins.rich();
        DUE.is("the drain ahead", x.about(3) > 0, true);
        DUE.is("the day ahead", x.about(4), 1);
        Due.write(x, "plate a holds 9;drain a wide 2;draw 44;");
        DUE.is("table", x.table(), 1);
        Edges.heap("nothing settles", x, 9);
        DUE.is("the drain", x.about(3), 0);
        DUE.is("the day", x.about(4), 0);
        DUE.is("the seed", x.about(5), 44);
        DUE.is("luck", x.about(13), 0);
        x.day();
        DUE.is("nothing falls", x.about(2) + x.about(3), 9);
    }

    private static void tableForgetsActs() {
        SandPlates x = Twins.rich();
        DUE.is("acts ahead", x.about(6), 2);
        DUE.is("undone ahead", x.about(7), 2);
        x.table();
        DUE.is("acts", x.about(6), 0);
        DUE.is("undone", x.about(7), 0);
        DUE.is("undo", x.undo(), false);
        DUE.is("redo", x.redo(), false);
    }

    private static void tableForgetsSeen() {
        SandPlates x = Twins.rich();
        DUE.is("seen ahead", x.about(8), 3);
        Due.write(x, "plate a;drain a wide 2;");
        x.table();
        DUE.is("seen", x.about(8), 0);
        DUE.is("none to untell", x.untell(0), false);
        DUE.is("all fit", x.fits(100000), 31);
        DUE.is("the next is the first", x.seen(0, 1, true), 0);
        DUE.is("it is not untold, as an earlier one was", x.fits(100000), 15);
    }

    private static void tableClearsLying() {
        SandPlates x = Twins.rich();
        DUE.is("they lie there ahead", x.about(12) > 0, true);
        x.table();
        Edges.lie(x);
    }

    private static void tableEmptiesBoxes() {
        SandPlates x = Twins.rich();
        x.image(1);
        x.table();
        for (int box = 0; box < 3; box++) {
            DUE.is("back(" + box + ")", x.back(box), -1);
            DUE.is("sum(" + box + ")", x.sum(box), -1);
            DUE.is("one(" + box + ")", x.one(box), -1);
        }
    }

    private static void timeStays() {
        SandPlates x = Twins.rich();
        DUE.is("ahead", x.about(9), 6);
        x.table();
        DUE.is("behind a table", x.about(9), 6);
        Due.write(x, "?");
        x.table();
        DUE.is("behind a fault", x.about(9), 6);
        DUE.is("it goes on", x.later(1), 7);
    }

    private static void tableCountsPlates() {
        good("", 0);
        good("plate a;drain a;", 1);
        good(FIVE + "drain a;drain b;drain c;drain d;drain e;", 5);
        good("luck 5;", 0);
    }

    private static void allStaysBehindFault() {
        String[] texts = {"?", "plate", "plate a;plate a;", "luck 101;", "drain a;", "plate a;",
            "plate x holds 7;plate y;chute x y;drain x;falls 9;luck 3;draw 4;plate z;"};
        for (String text : texts) {
            SandPlates x = Twins.rich();
            Due.write(x, text);
            DUE.is("table of " + text, x.table(), -1);
            Twins.same(text, x, Twins.rich(), true, false);
            // What falls is the old formula, too.
            SandPlates y = Twins.rich();
            Due.write(y, text);
            y.table();
            DUE.is("a day behind " + text, y.day(), Twins.rich().day());
            DUE.is("a second day behind " + text, y.will(2, 3, 1), dayBehind().will(2, 3, 1));
        }
    }

    private static SandPlates dayBehind() {
        SandPlates x = Twins.rich();
        x.day();
        return x;
    }

    private static void latestTable() {
        SandPlates x = new SandPlates();
        Due.write(x, "plate a;");
        x.table();
        DUE.is("fault(0)", x.fault(0), 6);
        DUE.is("fault(1)", x.fault(1), 8);
        Due.write(x, "luck 101;");
        DUE.is("the tape alone tells no fault", x.fault(0), 6);
        x.table();
        DUE.is("fault(0) of the next", x.fault(0), 4);
        DUE.is("fault(1) of the next", x.fault(1), 5);
        Due.write(x, "luck 100;");
        x.table();
        DUE.is("fault(0) of a good one", x.fault(0), 0);
        DUE.is("fault(1) of a good one", x.fault(1), -1);
    }

    private static void noFault() {
        DUE.is("without any table()", new SandPlates().fault(0), 0);
        DUE.is("behind a good one", Due.told("plate a;drain a;").fault(0), 0);
        DUE.is("behind an empty one", Due.told("").fault(0), 0);
    }

    private static void noPlace() {
        DUE.is("without any table()", new SandPlates().fault(1), -1);
        DUE.is("behind a good one", Due.told("plate a;drain a;").fault(1), -1);
        SandPlates x = new SandPlates();
        Due.write(x, "?");
        x.table();
        DUE.is("a fault at the first byte", x.fault(1), 0);
    }

    private static void leastAndGreatestBrim() {
        SandPlates x = Due.told("plate a;drain a;");
        DUE.is("no grains", x.plate(0, 0), 0);
        DUE.is("the least brim", x.plate(0, 1), 1);
        x = Due.told(FIVE + "drain a wide 2;chute a b wide 2;chute c a wide 2;chute a d wide 2;chute e a wide 2;");
        DUE.is("the greatest brim", x.plate(0, 1), 10);
        DUE.is("of the others", x.plate(4, 1), 2);
    }

    private static void noChuteToDrain() {
        SandPlates x = Due.told("plate a;plate b;plate c;drain a;drain b wide 2;chute a c;");
        DUE.is("wide 1", x.plate(0, 2), 1);
        DUE.is("wide 2", x.plate(1, 2), 2);
        DUE.is("none", x.plate(2, 2), 0);
    }

    private static void joinedBits() {
        SandPlates x = Due.told(FIVE + "drain a;drain d;chute e a wide 2;chute e b;chute e c;");
        DUE.is("none", x.plate(3, 3), 0);
        DUE.is("the last", x.plate(0, 3), 16);
        DUE.is("three", x.plate(4, 3), 7);
    }

    private static void noChute() {
        SandPlates x = Due.told(FIVE + "drain a;drain d;chute e a wide 2;chute e b;chute e c;");
        DUE.is("none", x.wide(0, 1), 0);
        DUE.is("none to one that has none", x.wide(3, 4), 0);
        for (int i = 0; i < 5; i++) {
            DUE.is("both are one", x.wide(i, i), 0);
        }
        DUE.is("wide 2", x.wide(0, 4), 2);
        DUE.is("wide 2 from the other side", x.wide(4, 0), 2);
        DUE.is("wide 1", x.wide(1, 4), 1);
    }

    private static void fewestChutes() {
        SandPlates x = Due.told(FIVE + "drain e;chute a b;chute b c;chute c d;chute d e;");
        for (int i = 0; i < 5; i++) {
            DUE.is("far(" + i + ") of a path", x.far(i), 5 - i);
        }
        x = Due.told(FIVE + "drain a wide 2;drain e;chute a b;chute b c;chute c d;chute d e wide 2;");
        int[] far = {1, 2, 3, 2, 1};
        for (int i = 0; i < 5; i++) {
            DUE.is("far(" + i + ") from both ends", x.far(i), far[i]);
        }
    }
}
