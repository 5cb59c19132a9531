import java.io.IOException;
import java.nio.charset.StandardCharsets;
import java.nio.file.Files;
import java.nio.file.Path;
import java.util.ArrayList;
import java.util.List;
import java.util.function.ToIntBiFunction;
import java.util.function.ToIntFunction;
import java.util.regex.Matcher;
import java.util.regex.Pattern;

/** Boundary cases: each is a sentence of the document, quoted as it stands there, with a test of its own. */
final class Edges {
    static final Due DUE = new Due("EdgesTest");
    static final int MIN = Integer.MIN_VALUE;
    static final int MAX = Integer.MAX_VALUE;
    /** What names a boundary in the document: a sentence with one of these must be quoted by a test. */
    private static final Pattern NAMES_ONE = Pattern.compile("NONE|-2|false|at most|\\.\\.|without|of like ones"
        + "|at first|if not told|once|wrapping|by 0|or more|below|above|empty|nothing|FAULTS|if more|first 60|lowest");
    private static final String[] TABLES = {"", "plate a holds 9;plate b holds 9;chute a b;drain b;",
        "plate a holds 9;plate b holds 9;plate c holds 9;plate d holds 9;plate e holds 9;"
        + "chute a b;chute b c;chute c d;chute d e;drain e;"};

    /** The document's text ahead of the first promise, then that of each promise, with one blank between words. */
    private final List<String> parts = new ArrayList<>();
    private final List<boolean[]> quoted = new ArrayList<>();
    private int tests;

    Edges() throws IOException {
        String document = Files.readString(Path.of("../shared/DOC.md"), StandardCharsets.UTF_8);
        String body = document.substring(document.indexOf("## Terms"), document.indexOf("## Not promised"));
        for (String part : body.split("## Promise ")) {
            parts.add(part.replaceAll("\\s+", " "));
            quoted.add(new boolean[parts.get(parts.size() - 1).length()]);
        }
        DUE.is("promises in the document", parts.size() - 1, 55);
    }

    /** The test of one sentence of a promise; 0: of what stands ahead of the promises. */
    void of(int promise, String quote, Runnable test) {
        int from = parts.get(promise).indexOf(quote);
        DUE.is("the document says in " + promise + ": " + quote, from >= 0, true);
        for (int i = Math.max(0, from); from >= 0 && i < from + quote.length(); i++) {
            quoted.get(promise)[i] = true;
        }
        int before = DUE.asked();
        DUE.about(promise + ", \"" + quote + "\"");
        test.run();
        DUE.about("");
        DUE.is("answers asked for: " + quote, DUE.asked() > before, true);
        tests++;
    }

    /** Every promise has a test here, and no words that name a boundary are left without one. */
    void end() {
        for (int promise = 0; promise < parts.size(); promise++) {
            boolean any = false;
            for (boolean one : quoted.get(promise)) {
                any |= one;
            }
            DUE.is("promise " + promise + " has a test", any, true);
            Matcher m = NAMES_ONE.matcher(parts.get(promise));
            while (m.find()) {
                String around = parts.get(promise).substring(Math.max(0, m.start() - 30),
                    Math.min(parts.get(promise).length(), m.end() + 30));
                DUE.is("quoted in " + promise + ": .. " + around + " ..", quoted.get(promise)[m.start()], true);
            }
        }
        System.out.println("EdgesTest: " + tests + " sentences");
        DUE.end();
    }

    // ---- what many sentences ask alike

    /** Just the plates of a table have an answer: 0 .. 4 of them, and none such beside them. */
    static void onlyPlates(String call, ToIntBiFunction<SandPlates, Integer> ask) {
        int[] many = {0, 2, 5};
        for (int i = 0; i < TABLES.length; i++) {
            for (int plate = 0; plate < many[i]; plate++) {
                int got = ask.applyAsInt(Due.told(TABLES[i]), plate);
                DUE.is(call + " of plate " + plate + " of " + many[i] + " answered " + got, got >= 0, true);
            }
            int[] beside = {-1, many[i], many[i] + 1, 5, 6, 31, 32, 64, -5, -32, MIN, MAX};
            for (int plate : beside) {
                DUE.is(call + " of plate " + plate + " of " + many[i], ask.applyAsInt(Due.told(TABLES[i]), plate), -1);
            }
        }
    }

    /** Just the numbers from .. to have an answer of 0 or more, all others have that which is told. */
    static void only(String call, int from, int to, int else_, ToIntFunction<Integer> ask) {
        for (int i = from; i <= to; i++) {
            int got = ask.applyAsInt(i);
            DUE.is(call + " by " + i + " answered " + got, got >= 0, true);
        }
        int[] beside = {from - 1, to + 1, from - 2, to + 2, from - 32, to + 32, from - 256, to + 256, MIN, MAX};
        for (int i : beside) {
            DUE.is(call + " by " + i, ask.applyAsInt(i), else_);
        }
    }

    static void lie(SandPlates x, int... want) {
        DUE.lie("", x, want);
    }

    /** A plate's grains, one after the other. */
    static void heap(String when, SandPlates x, int... want) {
        for (int i = 0; i < want.length; i++) {
            DUE.is(when + ": plate(" + i + ", 0)", x.plate(i, 0), want[i]);
        }
        DUE.is(when + ": plates", x.about(0), want.length);
    }
}
