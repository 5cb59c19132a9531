import java.math.BigInteger;
import java.util.ArrayList;
import java.util.Arrays;
import java.util.HashMap;
import java.util.HashSet;
import java.util.List;
import java.util.Map;
import java.util.Set;

/**
 * The document once more, by its own words and without any thrift: heaps are enumerated, grains topple one by
 * one (the greatest number first), what is one by lending is found by adding what the drain's chutes burn.
 */
public final class SlowPlates {
    private static final List<String> KEYS = List.of("plate", "holds", "chute", "wide", "drain", "falls", "luck",
        "draw", "or", "and", "not", "grains", "brim", "number", "day");

    private interface Node {
        int of(int grains, int brim, int number, int day);
    }

    private static final class Fault extends RuntimeException {
        private static final long serialVersionUID = 1L;
        final int kind;
        final int place;

        Fault(int kind, int place) {
            this.kind = kind;
            this.place = place;
        }
    }

    private record Token(String text, int place) {
        boolean isWord() {
            return !text.isEmpty() && Character.isLowerCase(text.charAt(0));
        }

        boolean isNumber() {
            return !text.isEmpty() && Character.isDigit(text.charAt(0));
        }
    }

    private static final class Told {
        final List<String> names = new ArrayList<>();
        int[] holds = new int[0];
        int[][] wide = new int[0][0];
        int[] drain = new int[0];
        int chutes;
        int luck = -1;
        int draw = -1;
        Node falls;
        int units;
        List<int[]> settled;
        Set<String> again;
        Map<String, int[]> bares;

        int n() {
            return names.size();
        }

        int brim(int i) {
            return Arrays.stream(wide[i]).sum() + drain[i];
        }
    }

    private record State(int[] heap, int drain, int day, int seed) {
    }

    private record Seen(int plate, int many, boolean is, int told, int[] untold) {
    }

    private final List<Integer> tape = new ArrayList<>();
    private Told t = new Told();
    private int fault;
    private int faultPlace = -1;
    private State s = new State(new int[0], 0, 0, 0);
    private final List<State> undos = new ArrayList<>();
    private final List<State> redos = new ArrayList<>();
    private final State[] boxes = new State[3];
    private int[] lying = new int[0];
    private final List<Seen> seen = new ArrayList<>();
    private int time;

    // ---- reading

    private Token token(int from) {
        int n = tape.size();
        int at = from;
        while (at < n && (tape.get(at) == 32 || tape.get(at) == 10)) {
            at++;
        }
        if (at == n) {
            return new Token("", n);
        }
        StringBuilder rest = new StringBuilder();
        for (int i = at; i < n; i++) {
            rest.append((char) (int) tape.get(i));
        }
        String[] forms = {"[a-z]+", "[0-9]+", "[;()<>=+*/%-]"};
        for (String form : forms) {
            java.util.regex.Matcher m = java.util.regex.Pattern.compile(form).matcher(rest);
            if (m.lookingAt()) {
                String text = m.group();
                boolean word = form == forms[0];
                boolean number = form == forms[1];
                boolean letterBehind = rest.substring(text.length()).matches("(?s)[a-z].*");
                if (word && text.length() > 8 || number && (text.length() > 4 || letterBehind)) {
                    throw new Fault(1, at);
                }
                return new Token(text, at);
            }
        }
        throw new Fault(1, at);
    }

    private Token here;
    private boolean ahead;
    private int at;

    private Token peek() {
        if (!ahead) {
            here = token(at);
            ahead = true;
        }
        return here;
    }

    private Token take() {
        Token token = peek();
        at = token.place + token.text.length();
        ahead = false;
        return token;
    }

    private void want(String text) {
        if (!peek().text.equals(text)) {
            throw new Fault(2, peek().place);
        }
        take();
    }

    private int wantNumber(int least, int most) {
        Token token = peek();
        if (!token.isNumber()) {
            throw new Fault(2, token.place);
        }
        int number = Integer.parseInt(token.text);
        if (number < least || number > most) {
            throw new Fault(4, token.place);
        }
        take();
        return number;
    }

    private Token wantName() {
        Token token = peek();
        if (!token.isWord() || KEYS.contains(token.text)) {
            throw new Fault(2, token.place);
        }
        return take();
    }

    private int wantPlate(Told told) {
        Token name = wantName();
        if (!told.names.contains(name.text)) {
            throw new Fault(5, name.place);
        }
        return told.names.indexOf(name.text);
    }

    private int maybe(String word, int least, int most, int otherwise) {
        if (!peek().text.equals(word)) {
            return otherwise;
        }
        take();
        return wantNumber(least, most);
    }

    private Told readAll() {
        Told told = new Told();
        at = 0;
        ahead = false;
        while (!peek().text.isEmpty()) {
            Token first = peek();
            switch (first.text) {
                case "plate" -> readPlate(told);
                case "chute" -> {
                    take();
                    int a = wantPlate(told);
                    int place = peek().place;
                    int b = wantPlate(told);
                    if (a == b || told.wide[a][b] > 0) {
                        throw new Fault(3, place);
                    }
                    told.wide[a][b] = told.wide[b][a] = maybe("wide", 1, 2, 1);
                    told.chutes++;
                }
                case "drain" -> {
                    take();
                    int place = peek().place;
                    int a = wantPlate(told);
                    if (told.drain[a] > 0) {
                        throw new Fault(3, place);
                    }
                    told.drain[a] = maybe("wide", 1, 2, 1);
                    told.chutes++;
                }
                case "falls" -> {
                    if (told.falls != null) {
                        throw new Fault(2, first.place);
                    }
                    take();
                    told.falls = readE(told, 0);
                }
                case "luck" -> {
                    if (told.luck >= 0) {
                        throw new Fault(2, first.place);
                    }
                    take();
                    told.luck = wantNumber(0, 100);
                }
                case "draw" -> {
                    if (told.draw >= 0) {
                        throw new Fault(2, first.place);
                    }
                    take();
                    told.draw = wantNumber(0, 999);
                }
                default -> throw new Fault(2, first.place);
            }
            want(";");
        }
        for (int i = 0; i < told.n(); i++) {
            if (farOf(told, i, new HashSet<>()) > 99) {
                throw new Fault(6, tape.size());
            }
        }
        return told;
    }

    private void readPlate(Told told) {
        int first = peek().place;
        if (told.n() == 5) {
            throw new Fault(2, first);
        }
        take();
        Token name = wantName();
        if (told.names.contains(name.text)) {
            throw new Fault(3, name.place);
        }
        told.names.add(name.text);
        int n = told.n();
        told.drain = Arrays.copyOf(told.drain, n);
        told.holds = Arrays.copyOf(told.holds, n);
        int[][] wider = new int[n][n];
        for (int i = 0; i < n - 1; i++) {
            System.arraycopy(told.wide[i], 0, wider[i], 0, n - 1);
        }
        told.wide = wider;
        told.holds[n - 1] = maybe("holds", 0, 99, 0);
    }

    private static int farOf(Told told, int plate, Set<Integer> been) {
        if (told.drain[plate] > 0) {
            return 1;
        }
        int best = 1000;
        been.add(plate);
        for (int i = 0; i < told.n(); i++) {
            if (told.wide[plate][i] > 0 && !been.contains(i)) {
                best = Math.min(best, 1 + farOf(told, i, new HashSet<>(been)));
            }
        }
        return best;
    }

    private Node readE(Told told, int within) {
        Node left = readBoth(told, within);
        while (peek().text.equals("or")) {
            take();
            Node a = left;
            Node b = readBoth(told, within);
            left = (g, r, n, d) -> a.of(g, r, n, d) != 0 || b.of(g, r, n, d) != 0 ? 1 : 0;
        }
        return left;
    }

    private Node readBoth(Told told, int within) {
        Node left = readOne(told, within);
        while (peek().text.equals("and")) {
            take();
            Node a = left;
            Node b = readOne(told, within);
            left = (g, r, n, d) -> a.of(g, r, n, d) != 0 && b.of(g, r, n, d) != 0 ? 1 : 0;
        }
        return left;
    }

    private Node readOne(Told told, int within) {
        if (peek().text.equals("not")) {
            if (within >= 7) {
                throw new Fault(2, peek().place);
            }
            take();
            Node a = readOne(told, within + 1);
            return (g, r, n, d) -> a.of(g, r, n, d) == 0 ? 1 : 0;
        }
        Node a = readSum(told, within);
        String sign = peek().text;
        if (!sign.equals("<") && !sign.equals(">") && !sign.equals("=")) {
            return a;
        }
        take();
        Node b = readSum(told, within);
        return (g, r, n, d) -> {
            int order = Integer.compare(a.of(g, r, n, d), b.of(g, r, n, d));
            return order < 0 && sign.equals("<") || order > 0 && sign.equals(">") || order == 0 && sign.equals("=")
                ? 1 : 0;
        };
    }

    private Node readSum(Told told, int within) {
        Node left = readTerm(told, within);
        while (peek().text.equals("+") || peek().text.equals("-")) {
            boolean plus = take().text.equals("+");
            Node a = left;
            Node b = readTerm(told, within);
            left = (g, r, n, d) -> a.of(g, r, n, d) + (plus ? b.of(g, r, n, d) : -b.of(g, r, n, d));
        }
        return left;
    }

    private Node readTerm(Told told, int within) {
        Node left = readUnit(told, within);
        while (peek().text.matches("[*/%]")) {
            String sign = take().text;
            Node a = left;
            Node b = readUnit(told, within);
            left = (g, r, n, d) -> {
                int x = a.of(g, r, n, d);
                int y = b.of(g, r, n, d);
                if (sign.equals("*")) {
                    return x * y;
                }
                if (y == 0) {
                    return 0;
                }
                return sign.equals("/") ? (int) ((long) x / y) : (int) ((long) x % y);
            };
        }
        return left;
    }

    private Node readUnit(Told told, int within) {
        Token token = peek();
        boolean named = List.of("grains", "brim", "number", "day").contains(token.text);
        boolean opens = token.text.equals("(");
        if (!named && !opens && !token.isNumber()) {
            throw new Fault(2, token.place);
        }
        if (told.units == 30 || opens && within >= 7) {
            throw new Fault(2, token.place);
        }
        told.units++;
        take();
        if (opens) {
            Node inside = readE(told, within + 1);
            want(")");
            return inside;
        }
        return switch (token.text) {
            case "grains" -> (g, r, n, d) -> g;
            case "brim" -> (g, r, n, d) -> r;
            case "number" -> (g, r, n, d) -> n;
            case "day" -> (g, r, n, d) -> d;
            default -> (g, r, n, d) -> Integer.parseInt(token.text);
        };
    }

    // ---- toppling

    private boolean is(int plate) {
        return plate >= 0 && plate < t.n();
    }

    private int over(int[] heap) {
        int bits = 0;
        for (int i = 0; i < t.n(); i++) {
            bits |= heap[i] >= t.brim(i) ? 1 << i : 0;
        }
        return bits;
    }

    /** Topples a plate once; the drain's share. */
    private int once(int[] heap, int plate) {
        heap[plate] -= t.brim(plate);
        for (int i = 0; i < t.n(); i++) {
            heap[i] += t.wide[plate][i];
        }
        return t.drain[plate];
    }

    /** What came of settling a copy. */
    private record Calm(int[] heap, int[] often, int drained) {
        int all() {
            return Arrays.stream(often).sum();
        }
    }

    private Calm calm(int[] from) {
        int[] heap = from.clone();
        int[] often = new int[heap.length];
        int drained = 0;
        for (int over = over(heap); over != 0; over = over(heap)) {
            int plate = 31 - Integer.numberOfLeadingZeros(over);
            drained += once(heap, plate);
            often[plate]++;
        }
        return new Calm(heap, often, drained);
    }

    private static int[] plus(int[] heap, int plate, int many) {
        int[] more = heap.clone();
        more[plate] += many;
        return more;
    }

    private static int level(int[] heap) {
        return Arrays.stream(heap).sum();
    }

    private boolean again(int[] heap) {
        if (over(heap) != 0 || Arrays.stream(heap).anyMatch(g -> g < 0)) {
            return false;
        }
        int[] lit = heap.clone();
        for (int i = 0; i < t.n(); i++) {
            lit[i] += t.drain[i];
        }
        return Arrays.equals(calm(lit).heap, heap);
    }

    private void learn() {
        if (t.settled != null) {
            return;
        }
        t.settled = new ArrayList<>();
        t.again = new HashSet<>();
        enumerate(new int[t.n()], 0);
    }

    private void enumerate(int[] heap, int plate) {
        if (plate == t.n()) {
            t.settled.add(heap.clone());
            if (again(heap)) {
                t.again.add(Arrays.toString(heap));
            }
            return;
        }
        for (int g = 0; g < t.brim(plate); g++) {
            heap[plate] = g;
            enumerate(heap, plate + 1);
        }
        heap[plate] = 0;
    }

    private int[] own(int[] from) {
        learn();
        int[] heap = from.clone();
        for (int i = 0; i < t.n(); i++) {
            while (heap[i] < 0) {
                heap[i] += t.again.size();
            }
        }
        heap = calm(heap).heap;
        while (!t.again.contains(Arrays.toString(heap))) {
            for (int i = 0; i < t.n(); i++) {
                heap[i] += t.drain[i];
            }
            heap = calm(heap).heap;
        }
        return heap;
    }

    private int[] bare(int[] heap) {
        learn();
        if (t.bares == null) {
            t.bares = new HashMap<>();
            for (int[] c : t.settled) {
                int[] over = new int[t.n()];
                for (int i = 0; i < t.n(); i++) {
                    over[i] = t.brim(i) - 1 - c[i];
                }
                if (t.again.contains(Arrays.toString(over))) {
                    t.bares.put(Arrays.toString(own(c)), c);
                }
            }
        }
        return t.bares.get(Arrays.toString(own(heap)));
    }

    private State dayAfter(State from, boolean lucky, int[] topplings) {
        int[] heap = from.heap.clone();
        for (int i = 0; i < t.n(); i++) {
            int falls = t.falls == null ? 0 : t.falls.of(heap[i], t.brim(i), i, from.day);
            falls = Math.min(20, Math.max(0, falls));
            for (int f = 0; f < falls && heap[i] < 999; f++) {
                heap[i]++;
            }
        }
        int seed = (from.seed * 137 + 71) % 1000;
        if (lucky && t.n() > 0 && seed % 100 < Math.max(0, t.luck) && heap[seed % t.n()] < 999) {
            heap[seed % t.n()]++;
        }
        Calm calm = calm(heap);
        topplings[0] = calm.all();
        return new State(calm.heap, from.drain + calm.drained, from.day + 1, seed);
    }

    private void act(State next) {
        undos.add(s);
        if (undos.size() > 40) {
            undos.remove(0);
        }
        redos.clear();
        s = next;
    }

    // ---- the face

    public int feed(int a, int b, int c, int d, int e) {
        if (tape.size() > 1580) {
            return -1;
        }
        for (int four : new int[] {a, b, c, d, e}) {
            tape.add(four >> 24 & 255);
            tape.add(four >> 16 & 255);
            tape.add(four >> 8 & 255);
            tape.add(four & 255);
        }
        return tape.size();
    }

    public int end(int n) {
        if (n < 0 || n > tape.size()) {
            return -1;
        }
        tape.subList(n, tape.size()).clear();
        return n;
    }

    public int table() {
        try {
            t = readAll();
        } catch (Fault f) {
            fault = f.kind;
            faultPlace = f.place;
            return -1;
        } finally {
            tape.clear();
        }
        fault = 0;
        faultPlace = -1;
        s = new State(t.holds.clone(), 0, 0, Math.max(0, t.draw));
        undos.clear();
        redos.clear();
        seen.clear();
        lying = new int[0];
        Arrays.fill(boxes, null);
        return t.n();
    }

    public int fault(int what) {
        return what == 0 ? fault : what == 1 ? faultPlace : -1;
    }

    public int plate(int plate, int what) {
        if (!is(plate) || what < 0 || what > 3) {
            return -1;
        }
        int bits = 0;
        for (int i = 0; i < t.n(); i++) {
            bits |= t.wide[plate][i] > 0 ? 1 << i : 0;
        }
        return new int[] {s.heap[plate], t.brim(plate), t.drain[plate], bits}[what];
    }

    public int wide(int plate, int other) {
        return is(plate) && is(other) ? t.wide[plate][other] : -1;
    }

    public int far(int plate) {
        return is(plate) ? farOf(t, plate, new HashSet<>()) : -1;
    }

    public int day() {
        int[] topplings = new int[1];
        act(dayAfter(s, true, topplings));
        return topplings[0];
    }

    public int drop(int plate, int many) {
        if (!is(plate) || many < 1 || many > 20 || s.heap[plate] + many > 999) {
            return -1;
        }
        act(new State(plus(s.heap, plate, many), s.drain, s.day, s.seed));
        return s.heap[plate];
    }

    public int topple(int plate) {
        if (!is(plate) || s.heap[plate] < t.brim(plate)) {
            return -1;
        }
        int[] heap = s.heap.clone();
        int drained = once(heap, plate);
        act(new State(heap, s.drain + drained, s.day, s.seed));
        return heap[plate];
    }

    public int settle() {
        if (over() == 0) {
            return -1;
        }
        Calm calm = calm(s.heap);
        act(new State(calm.heap, s.drain + calm.drained, s.day, s.seed));
        return calm.all();
    }

    public int sweep(int plate) {
        if (!is(plate) || s.heap[plate] == 0) {
            return -1;
        }
        int gone = s.heap[plate];
        act(new State(plus(s.heap, plate, -gone), s.drain, s.day, s.seed));
        return gone;
    }

    public boolean undo() {
        if (undos.isEmpty()) {
            return false;
        }
        redos.add(s);
        s = undos.remove(undos.size() - 1);
        return true;
    }

    public boolean redo() {
        if (redos.isEmpty()) {
            return false;
        }
        undos.add(s);
        s = redos.remove(redos.size() - 1);
        return true;
    }

    public int will(int plate, int n, int what) {
        if (!is(plate) || n < 0 || n > 30 || what != 0 && what != 1) {
            return -1;
        }
        State later = s;
        for (int i = 0; i < n; i++) {
            later = dayAfter(later, what == 1, new int[1]);
        }
        return later.heap[plate];
    }

    public int over() {
        return over(s.heap);
    }

    public int rest(int plate) {
        return is(plate) ? calm(s.heap).heap[plate] : -1;
    }

    public int often(int plate) {
        return is(plate) ? calm(s.heap).often[plate] : -1;
    }

    public int spilt() {
        return calm(s.heap).drained;
    }

    public int row() {
        List<Integer> row = new ArrayList<>();
        int[] heap = s.heap.clone();
        for (int over = over(heap); over != 0; over = over(heap)) {
            int plate = Integer.numberOfTrailingZeros(over);
            once(heap, plate);
            row.add(plate);
        }
        lying = row.stream().limit(60).mapToInt(i -> i).toArray();
        return row.size();
    }

    public int rounds() {
        int rounds = 0;
        int[] heap = s.heap.clone();
        for (int over = over(heap); over != 0; over = over(heap)) {
            for (int i = t.n() - 1; i >= 0; i--) {
                if ((over & 1 << i) != 0) {
                    once(heap, i);
                }
            }
            rounds++;
        }
        return rounds;
    }

    public int slide(int plate, int what) {
        if (!is(plate) || what < 0 || what > 2) {
            return -1;
        }
        Calm slid = calm(plus(calm(s.heap).heap, plate, 1));
        int bits = 0;
        for (int i = 0; i < t.n(); i++) {
            bits |= slid.often[i] > 0 ? 1 << i : 0;
        }
        return new int[] {slid.all(), bits, slid.drained}[what];
    }

    public int steepest() {
        int best = -1;
        for (int i = t.n() - 1; i >= 0; i--) {
            if (best < 0 || slide(i, 0) >= slide(best, 0)) {
                best = i;
            }
        }
        return best;
    }

    public int quiet() {
        int bits = 0;
        for (int i = 0; i < t.n(); i++) {
            bits |= slide(i, 0) == 0 ? 1 << i : 0;
        }
        return bits;
    }

    public int fire() {
        int[] rest = calm(s.heap).heap;
        List<Integer> burnt = new ArrayList<>();
        boolean more = true;
        while (more) {
            more = false;
            for (int i = 0; i < t.n() && !more; i++) {
                int lacks = t.brim(i) - t.drain[i];
                for (int b : burnt) {
                    lacks -= t.wide[i][b];
                }
                if (!burnt.contains(i) && rest[i] >= lacks) {
                    burnt.add(i);
                    more = true;
                }
            }
        }
        lying = burnt.stream().mapToInt(i -> i).toArray();
        if ((burnt.size() == t.n()) != again(rest)) {
            throw new IllegalStateException("the fire proves nothing");
        }
        return burnt.size();
    }

    public int many() {
        learn();
        return t.again.size();
    }

    public int level(int grains) {
        if (grains < 0) {
            return -1;
        }
        learn();
        return (int) t.settled.stream().filter(h -> level(h) == grains && t.again.contains(Arrays.toString(h))).count();
    }

    public int levels(int what) {
        learn();
        int[] all = t.settled.stream().filter(h -> t.again.contains(Arrays.toString(h))).mapToInt(SlowPlates::level)
            .sorted().toArray();
        return what == 0 ? all[0] : what == 1 ? all[all.length - 1] : -1;
    }

    public int mend() {
        learn();
        int[] rest = calm(s.heap).heap;
        int[] best = null;
        for (int[] h : t.settled) {
            boolean more = t.again.contains(Arrays.toString(h));
            for (int i = 0; i < t.n(); i++) {
                more &= h[i] >= rest[i];
            }
            // Heaps are enumerated from the fewest on the first plate on, so the first of like ones stays.
            if (more && (best == null || level(h) < level(best))) {
                best = h;
            }
        }
        lying = new int[t.n()];
        for (int i = 0; i < t.n(); i++) {
            lying[i] = best[i] - rest[i];
        }
        return level(lying);
    }

    public int nought(int plate) {
        return is(plate) ? own(new int[t.n()])[plate] : -1;
    }

    public int own(int plate) {
        return is(plate) ? own(s.heap)[plate] : -1;
    }

    public int bare(int plate) {
        return is(plate) ? bare(s.heap)[plate] : -1;
    }

    private boolean isKept(int box) {
        return box >= 0 && box < 3 && boxes[box] != null;
    }

    public int sum(int box) {
        lying = new int[0];
        if (!isKept(box)) {
            return -1;
        }
        int[] both = s.heap.clone();
        for (int i = 0; i < t.n(); i++) {
            both[i] += boxes[box].heap[i];
        }
        lying = calm(both).heap;
        return level(lying);
    }

    public int one(int box) {
        return !isKept(box) ? -1 : Arrays.equals(own(s.heap), own(boxes[box].heap)) ? 1 : 0;
    }

    private int turns(int[] heap) {
        String nought = Arrays.toString(own(new int[t.n()]));
        int[] sum = own(heap);
        int[] step = sum.clone();
        for (int turns = 1; turns <= 2000; turns++) {
            if (Arrays.toString(sum).equals(nought)) {
                return turns;
            }
            for (int i = 0; i < t.n(); i++) {
                sum[i] += step[i];
            }
            sum = own(sum);
        }
        return -1;
    }

    public int cycle() {
        return turns(s.heap);
    }

    public int wheel(int plate) {
        return is(plate) ? turns(plus(new int[t.n()], plate, 1)) : -1;
    }

    public int credit() {
        return level(s.heap) - level(bare(s.heap));
    }

    private boolean even(int[] heap, int drain) {
        return level(heap) + drain >= level(bare(heap));
    }

    private boolean evenLess(int[] heap, int drain, int taken, int from) {
        if (taken == 0) {
            return even(heap, drain);
        }
        boolean all = true;
        for (int i = from; i <= t.n() && all; i++) {
            all = i == t.n() ? evenLess(heap, drain - 1, taken - 1, i)
                : evenLess(plus(heap, i, -1), drain, taken - 1, i);
        }
        return all;
    }

    public int rank(int drain) {
        if (drain < -30 || drain > 30) {
            return -2;
        }
        int rank = -1;
        while (rank < 3 && evenLess(s.heap, drain, rank + 1, 0)) {
            rank++;
        }
        return rank;
    }

    public int mean(int plate, int other, int part) {
        if (!is(plate) || !is(other) || part != 0 && part != 1) {
            return -1;
        }
        BigInteger[] x = solve(plate);
        BigInteger upper = x[other];
        BigInteger lower = x[t.n()];
        BigInteger divisor = upper.gcd(lower);
        BigInteger sign = BigInteger.valueOf(lower.signum());
        return (part == 0 ? upper : lower).divide(divisor).multiply(sign).intValueExact();
    }

    /** The numbers x for a grain on one plate, all over the last one of what is answered. */
    private BigInteger[] solve(int plate) {
        int n = t.n();
        BigInteger[][] a = new BigInteger[n][n + 1];
        for (int i = 0; i < n; i++) {
            for (int j = 0; j < n; j++) {
                a[i][j] = BigInteger.valueOf(i == j ? t.brim(i) : -t.wide[i][j]);
            }
            a[i][n] = BigInteger.valueOf(i == plate ? 1 : 0);
        }
        for (int c = 0; c < n; c++) {
            int p = c;
            while (a[p][c].signum() == 0) {
                p++;
            }
            BigInteger[] row = a[p];
            a[p] = a[c];
            a[c] = row;
            for (int r = 0; r < n; r++) {
                if (r != c) {
                    BigInteger f = a[r][c];
                    for (int k = 0; k <= n; k++) {
                        a[r][k] = a[r][k].multiply(a[c][c]).subtract(a[c][k].multiply(f));
                    }
                }
            }
        }
        BigInteger lower = BigInteger.ONE;
        for (int i = 0; i < n; i++) {
            lower = lower.multiply(a[i][i]);
        }
        BigInteger[] x = new BigInteger[n + 1];
        for (int i = 0; i < n; i++) {
            x[i] = a[i][n].multiply(lower).divide(a[i][i]);
        }
        x[n] = lower;
        return x;
    }

    public int parts(int i) {
        long[] corner = smith();
        long[] above = Arrays.stream(corner).filter(p -> p > 1).toArray();
        return i >= 0 && i < above.length ? (int) above[i] : -1;
    }

    private long[] smith() {
        int n = t.n();
        long[][] a = new long[n][n];
        for (int i = 0; i < n; i++) {
            for (int j = 0; j < n; j++) {
                a[i][j] = i == j ? t.brim(i) : -t.wide[i][j];
            }
        }
        long[] corner = new long[n];
        for (int k = 0; k < n; k++) {
            while (!clean(a, k)) {
                continue;
            }
            corner[k] = Math.abs(a[k][k]);
        }
        return corner;
    }

    /** One step to a corner that divides all behind it; whether it is there. */
    private static boolean clean(long[][] a, int k) {
        int n = a.length;
        int br = -1;
        int bc = -1;
        for (int r = k; r < n; r++) {
            for (int c = k; c < n; c++) {
                if (a[r][c] != 0 && (br < 0 || Math.abs(a[r][c]) < Math.abs(a[br][bc]))) {
                    br = r;
                    bc = c;
                }
            }
        }
        long[] row = a[k];
        a[k] = a[br];
        a[br] = row;
        for (int r = 0; r < n; r++) {
            long x = a[r][k];
            a[r][k] = a[r][bc];
            a[r][bc] = x;
        }
        boolean zero = true;
        for (int r = k + 1; r < n; r++) {
            long q = a[r][k] / a[k][k];
            for (int c = k; c < n; c++) {
                a[r][c] -= q * a[k][c];
            }
            zero &= a[r][k] == 0;
        }
        for (int c = k + 1; c < n; c++) {
            long q = a[k][c] / a[k][k];
            for (int r = k; r < n; r++) {
                a[r][c] -= q * a[r][k];
            }
            zero &= a[k][c] == 0;
        }
        if (!zero) {
            return false;
        }
        for (int r = k + 1; r < n; r++) {
            for (int c = k + 1; c < n; c++) {
                if (a[r][c] % a[k][k] != 0) {
                    for (int j = k; j < n; j++) {
                        a[k][j] += a[r][j];
                    }
                    return false;
                }
            }
        }
        return true;
    }

    public int like(int plate) {
        if (!is(plate)) {
            return -1;
        }
        int bits = 0;
        for (int other = 0; other < t.n(); other++) {
            boolean like = other != plate && t.drain[plate] == t.drain[other];
            for (int i = 0; i < t.n(); i++) {
                for (int j = 0; j < t.n(); j++) {
                    like &= t.wide[i][j] == t.wide[exchanged(i, plate, other)][exchanged(j, plate, other)];
                }
            }
            bits |= like ? 1 << other : 0;
        }
        return bits;
    }

    private static int exchanged(int i, int a, int b) {
        return i == a ? b : i == b ? a : i;
    }

    private int gain(int plate, int a, int other, int b) {
        return calm(plus(plus(s.heap, plate, a), other, b)).often[plate] - a;
    }

    public int duel(int plate, int other) {
        lying = new int[0];
        if (!is(plate) || !is(other) || plate == other) {
            return -1;
        }
        int rests = 0;
        for (int a = 0; a <= 3; a++) {
            for (int b = 0; b <= 3; b++) {
                boolean rest = true;
                for (int i = 0; i <= 3; i++) {
                    rest &= gain(plate, i, other, b) <= gain(plate, a, other, b);
                    rest &= gain(other, i, plate, a) <= gain(other, b, plate, a);
                }
                if (rest && rests == 0) {
                    lying = new int[] {a, b};
                }
                rests += rest ? 1 : 0;
            }
        }
        return rests;
    }

    public int law(int n) {
        if (n < 0 || n > 20) {
            return -1;
        }
        int[] heap = s.heap.clone();
        for (int i = 0; i < t.n(); i++) {
            heap[i] += n;
        }
        return calm(heap).drained;
    }

    public int odds(int n, int part) {
        if (n < 0 || n > 4 || part != 0 && part != 1) {
            return -1;
        }
        BigInteger upper = BigInteger.valueOf(100 - Math.max(0, t.luck)).pow(n);
        BigInteger lower = BigInteger.valueOf(100).pow(n);
        return (part == 0 ? upper : lower).divide(upper.gcd(lower)).intValueExact();
    }

    public int lies(int i) {
        return i >= 0 && i < lying.length ? lying[i] : -2;
    }

    public int seen(int plate, int many, boolean is) {
        if (!is(plate) || many < 0 || many > 99 || seen.size() == 30) {
            return -1;
        }
        seen.add(new Seen(plate, many, is, time, new int[] {-1}));
        return seen.size() - 1;
    }

    public boolean untell(int number) {
        if (number < 0 || number >= seen.size() || seen.get(number).untold[0] >= 0) {
            return false;
        }
        seen.get(number).untold[0] = time;
        return true;
    }

    public int later(int by) {
        if (by < 0 || by > 1000 || time + by > 100000) {
            return -1;
        }
        time += by;
        return time;
    }

    private int[] guess(int x) {
        int[] heap = t.holds.clone();
        heap[t.n() - 1] = x;
        return calm(heap).heap;
    }

    private List<Integer> fitting(int k) {
        List<Integer> fitting = new ArrayList<>();
        for (int x = 0; x <= 30 && t.n() > 0; x++) {
            int[] end = guess(x);
            if (seen.stream().filter(e -> e.told <= k && !(e.untold[0] >= 0 && e.untold[0] <= k))
                .allMatch(e -> e.is == end[e.plate] >= e.many)) {
                fitting.add(x);
            }
        }
        return fitting;
    }

    public int fits(int k) {
        return fitting(k).size();
    }

    public int sure(int what, int k) {
        List<Integer> f = fitting(k);
        if (f.isEmpty() || what != 0 && what != 1) {
            return -1;
        }
        return what == 0 ? f.get(0) : f.get(f.size() - 1);
    }

    public int ask(int what, int k) {
        List<Integer> f = fitting(k);
        if (f.isEmpty() || what != 0 && what != 1) {
            return -1;
        }
        int best = -1;
        int fewest = 99;
        for (int i = 0; i < t.n(); i++) {
            int plate = i;
            Map<Integer, Integer> left = new HashMap<>();
            f.forEach(x -> left.merge(guess(x)[plate], 1, Integer::sum));
            int most = left.values().stream().mapToInt(v -> v).max().getAsInt();
            if (most < fewest) {
                fewest = most;
                best = i;
            }
        }
        return what == 0 ? best : fewest;
    }

    public int image(int box) {
        if (box < 0 || box > 2) {
            return -1;
        }
        boxes[box] = s;
        return level(s.heap);
    }

    public int back(int box) {
        if (!isKept(box)) {
            return -1;
        }
        s = boxes[box];
        undos.clear();
        redos.clear();
        return level(s.heap);
    }

    public int about(int what) {
        if (what < 0 || what > 14) {
            return -1;
        }
        return new int[] {t.n(), t.chutes, level(s.heap), s.drain, s.day, s.seed, undos.size(), redos.size(), seen.size(),
            time, tape.size(), t.units, lying.length, Math.max(0, t.luck), over() == 0 ? 1 : 0}[what];
    }
}
