import java.lang.reflect.InvocationTargetException;
import java.lang.reflect.Method;
import java.util.ArrayList;
import java.util.Arrays;
import java.util.Comparator;
import java.util.List;
import java.util.Random;

/** Runs of chance calls, answered by SandPlates and by the slow one: all 55 promises. */
public final class ModelTest {
    private static final Due DUE = new Due("ModelTest");
    private static final List<Method> FACE = new ArrayList<>();
    private static final String[] NAMES = {"a", "b", "c", "dd", "eeeeeeee"};
    /** Numbers at both sides of the document's limits. */
    private static final int[] EDGES = {Integer.MIN_VALUE, -31, -30, -2, -1, 0, 1, 2, 3, 4, 5, 6, 14, 15, 19, 20, 21, 29, 30,
        31, 59, 60, 61, 99, 100, 999, 1000, 1001, 1600, 1601, 100000, Integer.MAX_VALUE};

    public static void main(String[] args) throws ReflectiveOperationException {
        for (Method m : SandPlates.class.getDeclaredMethods()) {
            if (java.lang.reflect.Modifier.isPublic(m.getModifiers())) {
                FACE.add(m);
            }
        }
        FACE.sort(Comparator.comparing(Method::getName));
        DUE.is("methods of the face", FACE.size(), 54);
        int runs = args.length > 0 ? Integer.parseInt(args[0]) : 400;
        int first = args.length > 1 ? Integer.parseInt(args[1]) : 1;
        for (int seed = first; seed < first + runs; seed++) {
            run(seed);
        }
        DUE.end();
    }

    private static void run(int seed) throws ReflectiveOperationException {
        Random chance = new Random(seed);
        SandPlates x = new SandPlates();
        SlowPlates y = new SlowPlates();
        StringBuilder told = new StringBuilder("seed " + seed);
        int left = 512;
        boolean large = seed % 40 == 0;
        while (left > 100) {
            String text = table(chance, large);
            for (int i = chance.nextInt(4); i > 0; i--) {
                String worse = chance.nextBoolean() ? spoilt(text, chance) : spoiltWord(text, chance);
                left -= feed(x, y, worse, told + " spoilt " + worse);
            }
            told.append(" | ").append(text);
            left -= feed(x, y, text, told.toString());
            if (seed % 20 == 7) {
                left -= fill(x, y, chance, told.toString());
            }
            int calls = 60 + chance.nextInt(200);
            for (int i = 0; i < calls && left > 0; i++) {
                Method m = pick(chance, large);
                both(x, y, m, arguments(m, chance), told.toString());
                left--;
            }
        }
    }

    /** Grains up to the most that can be dropped on some plate, or nearly so. */
    private static int fill(SandPlates x, SlowPlates y, Random chance, String told) throws ReflectiveOperationException {
        Method drop = SandPlates.class.getMethod("drop", int.class, int.class);
        int plate = chance.nextInt(5);
        int most = 940 + chance.nextInt(60);
        int calls = 0;
        while (calls < 60 && x.plate(plate, 0) >= 0 && x.plate(plate, 0) < most) {
            both(x, y, drop, new Object[] {plate, 20}, told);
            calls++;
        }
        return calls;
    }

    private static Method pick(Random chance, boolean large) {
        while (true) {
            Method m = FACE.get(chance.nextInt(FACE.size()));
            String name = m.getName();
            boolean rare = List.of("feed", "end", "back").contains(name) && chance.nextInt(6) > 0
                || name.equals("table") && chance.nextInt(100) > 0;
            boolean slow = large && List.of("cycle", "wheel", "level", "levels").contains(name) && chance.nextInt(9) > 0;
            if (!rare && !slow) {
                return m;
            }
        }
    }

    private static int feed(SandPlates x, SlowPlates y, String text, String told) {
        Due.write(x, text);
        y.end(0);
        for (int i = 0; i < text.length(); i += 20) {
            int[] five = new int[5];
            for (int b = 0; b < 20; b++) {
                int c = i + b < text.length() ? text.charAt(i + b) & 255 : 32;
                five[b / 4] = five[b / 4] << 8 | c;
            }
            y.feed(five[0], five[1], five[2], five[3], five[4]);
        }
        y.end(text.length());
        DUE.is(told + " table()", x.table(), y.table());
        DUE.is(told + " fault(0)", x.fault(0), y.fault(0));
        DUE.is(told + " fault(1)", x.fault(1), y.fault(1));
        DUE.is(told + " tape", x.about(10), y.about(10));
        return text.length() / 20 + 6;
    }

    private static Object[] arguments(Method m, Random chance) {
        Class<?>[] types = m.getParameterTypes();
        Object[] values = new Object[types.length];
        for (int i = 0; i < types.length; i++) {
            values[i] = types[i] == boolean.class ? (Object) chance.nextBoolean() : (Object) number(m.getName(), i, chance);
        }
        return values;
    }

    private static int number(String name, int i, Random chance) {
        if (chance.nextInt(20) == 0) {
            return EDGES[chance.nextInt(EDGES.length)];
        }
        if (chance.nextInt(40) == 0) {
            return chance.nextBoolean() ? chance.nextInt() : chance.nextInt(200) - 100;
        }
        switch (name) {
            case "level": return chance.nextInt(30);
            case "rank": return chance.nextInt(5) == 0 ? chance.nextInt(61) - 30 : chance.nextInt(20) - 12;
            case "lies": return chance.nextInt(10);
            case "about": return chance.nextInt(15);
            case "law": return chance.nextInt(22);
            case "later": return chance.nextInt(4);
            case "fits": return chance.nextInt(60);
            case "untell": return chance.nextInt(6);
            case "end": return chance.nextInt(100);
            default: break;
        }
        if (i == 1) {
            switch (name) {
                case "drop": return 1 + chance.nextInt(20);
                case "will": return chance.nextInt(32);
                case "seen": return chance.nextInt(8) > 0 ? chance.nextInt(5) : chance.nextInt(101);
                case "sure": case "ask": return chance.nextInt(60);
                default: break;
            }
        }
        return chance.nextInt(5);
    }

    private static void both(SandPlates x, SlowPlates y, Method m, Object[] values, String told)
            throws ReflectiveOperationException {
        Method slow = SlowPlates.class.getMethod(m.getName(), m.getParameterTypes());
        String call = told + " .. " + m.getName() + Arrays.toString(values);
        try {
            Object want = slow.invoke(y, values);
            Object got = m.invoke(x, values);
            DUE.is(call, got.equals(want) ? 0 : 1, 0);
            if (!got.equals(want)) {
                System.out.println("  got " + got + ", want " + want);
            }
            DUE.is(call + " lies", x.about(12), y.about(12));
            for (int i = 0; i < y.about(12); i++) {
                DUE.is(call + " lies " + i, x.lies(i), y.lies(i));
            }
        } catch (InvocationTargetException e) {
            throw new IllegalStateException(call, e.getCause());
        }
    }

    // ---- tables of chance

    private static String table(Random chance, boolean large) {
        int n = large ? 5 : chance.nextInt(20) == 0 ? 0 : 1 + chance.nextInt(4) + chance.nextInt(10) / 8;
        StringBuilder text = new StringBuilder();
        for (int i = 0; i < n; i++) {
            text.append("plate ").append(NAMES[i]);
            if (chance.nextBoolean()) {
                text.append(" holds ").append(chance.nextInt(4) == 0 ? chance.nextInt(100) : chance.nextInt(9));
            }
            text.append(";\n");
        }
        int dense = large ? 2 : chance.nextInt(6);
        boolean twos = chance.nextBoolean();
        for (int i = 0; i < n; i++) {
            boolean joined = false;
            for (int j = 0; j < i; j++) {
                if (dense > 2 ? chance.nextInt(3) == 0 : dense > 0 || j == i - 1) {
                    text.append("chute ").append(NAMES[i]).append(' ').append(NAMES[j]).append(wide(chance, twos));
                    joined = true;
                }
            }
            if (!joined || chance.nextInt(3) == 0) {
                text.append("drain ").append(NAMES[i]).append(wide(chance, twos));
            }
        }
        if (chance.nextInt(4) > 0) {
            int[] units = {0};
            text.append("falls ").append(formula(chance, 0, units)).append(";");
        }
        if (chance.nextBoolean()) {
            text.append(" luck ").append(chance.nextInt(101)).append(";");
        }
        if (chance.nextBoolean()) {
            text.append(" draw ").append(chance.nextInt(1000)).append(" ;");
        }
        return text.toString();
    }

    private static String wide(Random chance, boolean twos) {
        return twos && chance.nextBoolean() ? " wide " + (1 + chance.nextInt(2)) + ";" : ";";
    }

    private static String formula(Random chance, int depth, int[] units) {
        String[] signs = {" or ", " and ", "<", ">", "=", "+", "-", "*", "/", "%", "+", "%"};
        String[] leaves = {"grains", "brim", "number", "day", "9999", "1", "2", "3", "7", "0"};
        units[0]++;
        int kind = chance.nextInt(depth > 3 || units[0] > 12 ? 2 : 8);
        if (kind < 2) {
            return leaves[chance.nextInt(leaves.length)];
        }
        if (kind == 2) {
            return "(not " + formula(chance, depth + 1, units) + ")";
        }
        if (kind == 3) {
            return "(" + formula(chance, depth + 1, units) + ")";
        }
        String sign = signs[chance.nextInt(signs.length)];
        String both = formula(chance, depth + 1, units) + sign + formula(chance, depth + 1, units);
        return chance.nextBoolean() && depth > 0 ? "(" + both + ")" : both;
    }

    /** Another name, number or word of the table's in the place of one. */
    private static String spoiltWord(String text, Random chance) {
        List<int[]> words = new ArrayList<>();
        java.util.regex.Matcher m = java.util.regex.Pattern.compile("[a-z]+|[0-9]+").matcher(text);
        while (m.find()) {
            words.add(new int[] {m.start(), m.end()});
        }
        if (words.isEmpty()) {
            return text;
        }
        int[] place = words.get(chance.nextInt(words.size()));
        String[] numbers = {"0", "1", "2", "3", "99", "100", "101", "999", "1000", "9999", "00001"};
        String[] names = {"a", "b", "c", "dd", "eeeeeeee", "f", "plate", "wide", "day"};
        boolean number = Character.isDigit(text.charAt(place[0]));
        String other = number ? numbers[chance.nextInt(numbers.length)] : names[chance.nextInt(names.length)];
        return text.substring(0, place[0]) + other + text.substring(place[1]);
    }

    private static String spoilt(String text, Random chance) {
        StringBuilder worse = new StringBuilder(text);
        String signs = "abz019;()<>=+-*/% \nA_\t";
        String[] words = {"plate ", "holds ", "chute ", "wide ", "drain ", "falls ", "luck ", "draw ", " or ", " and ",
            " not ", "grains", "brim", "number", "day", "(((((((", "not not ", "12345", "abcdefghi", "99", " a ", " b "};
        int times = 1 + chance.nextInt(3);
        for (int i = 0; i < times && worse.length() > 1; i++) {
            int place = chance.nextInt(worse.length());
            switch (chance.nextInt(5)) {
                case 0: worse.deleteCharAt(place); break;
                case 1: worse.setCharAt(place, signs.charAt(chance.nextInt(signs.length()))); break;
                case 2: worse.insert(place, words[chance.nextInt(words.length)]); break;
                case 3: worse.setLength(place); break;
                default:
                    int semi = worse.indexOf(";", place);
                    if (semi >= 0) {
                        worse.insert(semi + 1, worse.substring(place, semi + 1));
                    }
                    break;
            }
        }
        return worse.length() > 1600 ? worse.substring(0, 1600) : worse.toString();
    }
}
