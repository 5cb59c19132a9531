import java.util.Arrays;

/** Heaps of grains that topple from plate to plate into a drain, as the table on a tape tells them. */
public final class SandPlates {
    public static final int NONE = -1;

    private static final int MOST_PLATES = 5;
    private static final int MOST_BYTES = 1600;
    private static final int MOST_GRAINS = 999;
    private static final int MOST_DAYS = 999;
    private static final int MOST_TURNS = 2000;
    private static final int BOXES = 3;
    private static final int STAKES = 4;
    private static final int NO_NUMBER = -2;

    // A state is one row of numbers, so that acts and boxes can keep it by copying: the grains first.
    private static final int DRAIN = 5;
    private static final int DAY = 6;
    private static final int SEED = 7;
    private static final int STATE = 8;

    // Far above any settling that 512 calls can heap up: a loop's end that is never reached.
    private static final int ENOUGH = 1000000;

    private final int[] tape = new int[MOST_BYTES];
    private int tapeLength;
    private final Reader reader = new Reader();
    private int faultKind;
    private int faultPlace = NONE;
    private Board board = new Board();
    private Board draft = new Board();
    private final int[] now = new int[STATE];
    private final int[] ahead = new int[STATE];
    private final int[] spare = new int[STATE];
    private final Acts acts = new Acts();
    private final int[] boxes = new int[BOXES * STATE];
    private final boolean[] filled = new boolean[BOXES];
    private final Sand sand = new Sand();
    private final Sand slip = new Sand();
    private final Group group = new Group();
    private final Fire burning = new Fire();
    private final Sights sights = new Sights();
    private final Lying lying = new Lying();
    private final int[] gains = new int[2 * STAKES * STAKES];

    /** Rows of noughts are the empty table already, so that nothing is left to do. */
    public SandPlates() {
    }

    // ---- the tape and the table

    public int feed(int a, int b, int c, int d, int e) {
        if (tapeLength + 20 > MOST_BYTES) {
            return NONE;
        }
        putBytes(a);
        putBytes(b);
        putBytes(c);
        putBytes(d);
        putBytes(e);
        return tapeLength;
    }

    private void putBytes(int four) {
        for (int shift = 24; shift >= 0 && tapeLength < MOST_BYTES; shift -= 8) {
            tape[tapeLength] = (four >>> shift) & 255;
            tapeLength++;
        }
    }

    public int end(int n) {
        if (n < 0 || n > tapeLength) {
            return NONE;
        }
        tapeLength = n;
        return n;
    }

    public int table() {
        boolean good = reader.read(tape, tapeLength, draft);
        faultKind = reader.fault;
        faultPlace = reader.faultPlace;
        // Read is read: a fault leaves the table as it was, but not the tape.
        tapeLength = 0;
        if (!good) {
            return NONE;
        }
        Board old = board;
        board = draft;
        draft = old;
        begin();
        return board.plates;
    }

    private void begin() {
        for (int i = 0; i < MOST_PLATES; i++) {
            now[i] = board.holds[i];
        }
        now[DRAIN] = 0;
        now[DAY] = 0;
        now[SEED] = board.draw;
        acts.forget(now);
        for (int box = 0; box < BOXES; box++) {
            filled[box] = false;
        }
        lying.clear();
        sights.forget();
        burning.forget();
        group.learn(board);
    }

    public int fault(int what) {
        if (what == 0) {
            return faultKind;
        }
        return what == 1 ? faultPlace : NONE;
    }

    public int plate(int plate, int what) {
        if (!board.has(plate)) {
            return NONE;
        }
        switch (what) {
            case 0: return now[plate];
            case 1: return board.brim[plate];
            case 2: return board.toDrain[plate];
            case 3: return board.joinedTo(plate);
            default: return NONE;
        }
    }

    public int wide(int plate, int other) {
        if (!board.has(plate) || !board.has(other)) {
            return NONE;
        }
        return board.width(plate, other);
    }

    public int far(int plate) {
        return board.has(plate) ? board.steps[plate] : NONE;
    }

    // ---- acts

    public int day() {
        if (now[DAY] >= MOST_DAYS) {
            return NONE;
        }
        int topplings = passDay(now, true);
        acts.keep(now);
        return topplings;
    }

    private int passDay(int[] state, boolean lucky) {
        for (int i = 0; i < board.plates; i++) {
            int comes = board.falls.worth(state[i], board.brim[i], i, state[DAY]);
            addFallen(state, i, Math.max(0, Math.min(20, comes)));
        }
        state[SEED] = (state[SEED] * 137 + 71) % 1000;
        if (lucky && board.plates > 0 && state[SEED] % 100 < board.luck) {
            addFallen(state, state[SEED] % board.plates, 1);
        }
        state[DAY]++;
        return calmDown(state);
    }

    private static void addFallen(int[] state, int plate, int many) {
        if (plate >= 0 && plate < MOST_PLATES && state[plate] < MOST_GRAINS) {
            state[plate] = Math.min(MOST_GRAINS, state[plate] + many);
        }
    }

    private int calmDown(int[] state) {
        sand.take(state);
        sand.calm(board);
        layBack(state);
        return sand.topplings;
    }

    private void layBack(int[] state) {
        for (int i = 0; i < board.plates; i++) {
            state[i] = sand.grains[i];
        }
        state[DRAIN] += sand.drained;
    }

    public int drop(int plate, int many) {
        if (!board.has(plate) || many < 1 || many > 20 || now[plate] + many > MOST_GRAINS) {
            return NONE;
        }
        now[plate] += many;
        acts.keep(now);
        return now[plate];
    }

    public int topple(int plate) {
        if (!board.has(plate) || now[plate] < board.brim[plate]) {
            return NONE;
        }
        sand.take(now);
        sand.tip(board, plate, 1);
        layBack(now);
        acts.keep(now);
        return now[plate];
    }

    public int settle() {
        if (over() == 0) {
            return NONE;
        }
        int topplings = calmDown(now);
        acts.keep(now);
        return topplings;
    }

    public int sweep(int plate) {
        if (!board.has(plate) || now[plate] <= 0) {
            return NONE;
        }
        int gone = now[plate];
        now[plate] = 0;
        acts.keep(now);
        return gone;
    }

    public boolean undo() {
        return acts.goBack(now);
    }

    public boolean redo() {
        return acts.goOn(now);
    }

    // ---- what would come of what is now

    public int will(int plate, int n, int what) {
        if (!board.has(plate) || n < 0 || n > 30 || what < 0 || what > 1) {
            return NONE;
        }
        System.arraycopy(now, 0, ahead, 0, STATE);
        for (int i = 0; i < n; i++) {
            passDay(ahead, what == 1);
        }
        return ahead[plate];
    }

    public int over() {
        return board.overfull(now);
    }

    private void settleAhead() {
        sand.take(now);
        sand.calm(board);
    }

    public int rest(int plate) {
        if (!board.has(plate)) {
            return NONE;
        }
        settleAhead();
        return sand.grains[plate];
    }

    public int often(int plate) {
        if (!board.has(plate)) {
            return NONE;
        }
        settleAhead();
        return sand.often[plate];
    }

    public int spilt() {
        settleAhead();
        return sand.drained;
    }

    public int row() {
        lying.clear();
        sand.take(now);
        int over = board.overfull(sand.grains);
        for (int i = 0; i < Lying.MOST && over != 0; i++) {
            int plate = Integer.numberOfTrailingZeros(over);
            sand.tip(board, plate, 1);
            lying.put(plate);
            over = board.overfull(sand.grains);
        }
        // The order of the topplings behind the first 60 is not asked for, so they may come in heaps.
        sand.calm(board);
        return sand.topplings;
    }

    public int rounds() {
        sand.take(now);
        int rounds = 0;
        int over = board.overfull(sand.grains);
        while (over != 0 && rounds < ENOUGH) {
            for (int i = 0; i < board.plates; i++) {
                if ((over >> i & 1) != 0) {
                    sand.tip(board, i, 1);
                }
            }
            rounds++;
            over = board.overfull(sand.grains);
        }
        return rounds;
    }

    // Leaves what topples from one grain more on a plate in slip; sand has the heap at rest.
    private void slideFrom(int plate) {
        slip.take(sand.grains);
        slip.put(plate, 1);
        slip.calm(board);
    }

    public int slide(int plate, int what) {
        if (!board.has(plate) || what < 0 || what > 2) {
            return NONE;
        }
        settleAhead();
        slideFrom(plate);
        if (what == 0) {
            return slip.topplings;
        }
        return what == 1 ? slip.toppled(board.plates) : slip.drained;
    }

    public int steepest() {
        settleAhead();
        int best = NONE;
        int most = -1;
        for (int i = 0; i < board.plates; i++) {
            slideFrom(i);
            if (slip.topplings > most) {
                most = slip.topplings;
                best = i;
            }
        }
        return best;
    }

    public int quiet() {
        settleAhead();
        int bits = 0;
        for (int i = 0; i < board.plates; i++) {
            slideFrom(i);
            if (slip.topplings == 0) {
                bits |= 1 << i;
            }
        }
        return bits;
    }

    // ---- heaps that come again

    public int fire() {
        settleAhead();
        lying.clear();
        return burning.burn(board, sand.grains, lying);
    }

    public int many() {
        return (int) group.size;
    }

    public int level(int grains) {
        return grains < 0 ? NONE : burning.ofLevel(board, grains);
    }

    public int levels(int what) {
        if (what == 0) {
            return board.betweenPlates();
        }
        return what == 1 ? board.allBrims() - board.plates : NONE;
    }

    public int mend() {
        settleAhead();
        lying.clear();
        return burning.leastToAdd(board, sand.grains, lying);
    }

    public int nought(int plate) {
        if (!board.has(plate)) {
            return NONE;
        }
        Arrays.fill(spare, 0);
        group.toOwn(board, spare);
        return spare[plate];
    }

    public int own(int plate) {
        if (!board.has(plate)) {
            return NONE;
        }
        System.arraycopy(now, 0, spare, 0, STATE);
        group.toOwn(board, spare);
        return spare[plate];
    }

    public int bare(int plate) {
        if (!board.has(plate)) {
            return NONE;
        }
        System.arraycopy(now, 0, spare, 0, STATE);
        group.toBare(board, spare);
        return spare[plate];
    }

    public int sum(int box) {
        lying.clear();
        if (!isFilled(box)) {
            return NONE;
        }
        sand.take(now);
        for (int i = 0; i < board.plates; i++) {
            sand.put(i, boxes[box * STATE + i]);
        }
        sand.calm(board);
        int together = 0;
        for (int i = 0; i < board.plates; i++) {
            lying.put(sand.grains[i]);
            together += sand.grains[i];
        }
        return together;
    }

    public int one(int box) {
        if (!isFilled(box)) {
            return NONE;
        }
        for (int i = 0; i < MOST_PLATES; i++) {
            spare[i] = now[i] - boxes[box * STATE + i];
        }
        return group.turns(board, spare) == 1 ? 1 : 0;
    }

    public int cycle() {
        return turnsOrNone(now);
    }

    public int wheel(int plate) {
        if (!board.has(plate)) {
            return NONE;
        }
        Arrays.fill(spare, 0);
        spare[plate] = 1;
        return turnsOrNone(spare);
    }

    private int turnsOrNone(int[] heap) {
        long turns = group.turns(board, heap);
        return turns > MOST_TURNS ? NONE : (int) turns;
    }

    public int credit() {
        System.arraycopy(now, 0, spare, 0, STATE);
        group.toBare(board, spare);
        return board.grainsOf(now) - board.grainsOf(spare);
    }

    public int rank(int drain) {
        if (drain < -30 || drain > 30) {
            return NO_NUMBER;
        }
        int together = board.grainsOf(now) + drain;
        System.arraycopy(now, 0, spare, 0, STATE);
        // The heap's own stands for it, so that no plate is far below 0 when grains are taken away.
        group.toOwn(board, spare);
        int needed = 0;
        for (int taken = 0; taken <= 3; taken++) {
            needed = Math.max(needed, mostNeeded(taken, 0));
            if (together - taken < needed) {
                return taken - 1;
            }
        }
        return 3;
    }

    // The most grains of the bare of any heap that has so many fewer, taken from plates from a number on.
    private int mostNeeded(int taken, int from) {
        if (taken <= 0) {
            System.arraycopy(spare, 0, ahead, 0, STATE);
            group.toBare(board, ahead);
            return board.grainsOf(ahead);
        }
        int most = 0;
        for (int i = from; i < board.plates; i++) {
            most = Math.max(most, mostNeededWithout(i, taken));
        }
        return most;
    }

    private int mostNeededWithout(int plate, int taken) {
        spare[plate]--;
        int most = mostNeeded(taken - 1, plate);
        spare[plate]++;
        return most;
    }

    public int mean(int plate, int other, int part) {
        if (!board.has(plate) || !board.has(other) || part < 0 || part > 1) {
            return NONE;
        }
        return part(group.cofactor(plate, other), group.size, part);
    }

    private static int part(long upper, long lower, int part) {
        long divisor = commonDivisor(upper, lower);
        if (divisor <= 0) {
            return NONE;
        }
        return (int) ((part == 0 ? upper : lower) / divisor);
    }

    private static long commonDivisor(long a, long b) {
        long more = Math.abs(a);
        long less = Math.abs(b);
        for (int i = 0; i < ENOUGH && less != 0; i++) {
            long left = more % less;
            more = less;
            less = left;
        }
        return more;
    }

    public int parts(int i) {
        return i >= 0 && i < group.partCount ? group.parts[i] : NONE;
    }

    public int like(int plate) {
        if (!board.has(plate)) {
            return NONE;
        }
        int bits = 0;
        for (int i = 0; i < board.plates; i++) {
            if (i != plate && board.exchangeable(plate, i)) {
                bits |= 1 << i;
            }
        }
        return bits;
    }

    // ---- two who drop grains, odds

    public int duel(int plate, int other) {
        lying.clear();
        if (!board.has(plate) || !board.has(other) || plate == other) {
            return NONE;
        }
        playAll(plate, other);
        int rests = 0;
        for (int a = 0; a < STAKES; a++) {
            for (int b = 0; b < STAKES; b++) {
                if (isRest(a, b)) {
                    if (rests == 0) {
                        lying.put(a);
                        lying.put(b);
                    }
                    rests++;
                }
            }
        }
        return rests;
    }

    private void playAll(int plate, int other) {
        settleAhead();
        for (int a = 0; a < STAKES; a++) {
            for (int b = 0; b < STAKES; b++) {
                slip.take(sand.grains);
                slip.put(plate, a);
                slip.put(other, b);
                slip.calm(board);
                // What topples till the heap is at rest comes to every gain alike, so it is left out.
                gains[gainAt(a, b, 0)] = slip.often[plate] - a;
                gains[gainAt(a, b, 1)] = slip.often[other] - b;
            }
        }
    }

    private static int gainAt(int a, int b, int whose) {
        return (a * STAKES + b) * 2 + whose;
    }

    private boolean isRest(int a, int b) {
        for (int i = 0; i < STAKES; i++) {
            if (gains[gainAt(i, b, 0)] > gains[gainAt(a, b, 0)] || gains[gainAt(a, i, 1)] > gains[gainAt(a, b, 1)]) {
                return false;
            }
        }
        return true;
    }

    public int law(int n) {
        if (n < 0 || n > 20) {
            return NONE;
        }
        sand.take(now);
        for (int i = 0; i < board.plates; i++) {
            sand.put(i, n);
        }
        sand.calm(board);
        return sand.drained;
    }

    public int odds(int n, int part) {
        if (n < 0 || n > 4 || part < 0 || part > 1) {
            return NONE;
        }
        long upper = 1;
        long lower = 1;
        for (int i = 0; i < n; i++) {
            upper *= 100 - board.luck;
            lower *= 100;
        }
        return part(upper, lower, part);
    }

    public int lies(int i) {
        return i >= 0 && i < lying.count ? lying.numbers[i] : NO_NUMBER;
    }

    // ---- what was seen

    public int seen(int plate, int many, boolean is) {
        if (!board.has(plate) || many < 0 || many > 99) {
            return NONE;
        }
        return sights.tell(plate, many, is);
    }

    public boolean untell(int seen) {
        return sights.takeBack(seen);
    }

    public int later(int by) {
        return sights.goLater(by);
    }

    public int fits(int k) {
        return sights.weigh(board, k);
    }

    public int sure(int what, int k) {
        if (what < 0 || what > 1 || sights.weigh(board, k) == 0) {
            return NONE;
        }
        return what == 0 ? sights.least : sights.greatest;
    }

    public int ask(int what, int k) {
        if (what < 0 || what > 1 || sights.weigh(board, k) == 0) {
            return NONE;
        }
        int best = NONE;
        int fewest = ENOUGH;
        for (int i = 0; i < board.plates; i++) {
            int left = sights.leftAtMost(i);
            if (left < fewest) {
                fewest = left;
                best = i;
            }
        }
        return what == 0 ? best : fewest;
    }

    // ---- images, and what all this is about

    private boolean isFilled(int box) {
        return box >= 0 && box < BOXES && filled[box];
    }

    public int image(int box) {
        if (box < 0 || box >= BOXES) {
            return NONE;
        }
        System.arraycopy(now, 0, boxes, box * STATE, STATE);
        filled[box] = true;
        return board.grainsOf(now);
    }

    public int back(int box) {
        if (!isFilled(box)) {
            return NONE;
        }
        System.arraycopy(boxes, box * STATE, now, 0, STATE);
        acts.forget(now);
        return board.grainsOf(now);
    }

    public int about(int what) {
        switch (what) {
            case 0: return board.plates;
            case 1: return board.chutes;
            case 2: return board.grainsOf(now);
            case 3: return now[DRAIN];
            case 4: return now[DAY];
            case 5: return now[SEED];
            case 6: return acts.at;
            case 7: return acts.last - acts.at;
            case 8: return sights.count;
            case 9: return sights.time;
            case 10: return tapeLength;
            case 11: return board.units;
            case 12: return lying.count;
            case 13: return board.luck;
            case 14: return over() == 0 ? 1 : 0;
            default: return NONE;
        }
    }

    /** What a table tells. */
    private static final class Board {
        int plates;
        int chutes;
        int luck;
        int draw;
        int units;
        final int[] holds = new int[MOST_PLATES];
        final int[] widths = new int[MOST_PLATES * MOST_PLATES];
        final int[] toDrain = new int[MOST_PLATES];
        final int[] brim = new int[MOST_PLATES];
        final int[] steps = new int[MOST_PLATES];
        final Formula falls = new Formula();

        void clear() {
            plates = 0;
            chutes = 0;
            luck = 0;
            draw = 0;
            units = 0;
            Arrays.fill(holds, 0);
            Arrays.fill(widths, 0);
            Arrays.fill(toDrain, 0);
            falls.clear();
        }

        boolean has(int plate) {
            return plate >= 0 && plate < plates;
        }

        int width(int plate, int other) {
            return has(plate) && has(other) ? widths[plate * MOST_PLATES + other] : 0;
        }

        void join(int plate, int other, int wide) {
            if (has(plate) && has(other)) {
                widths[plate * MOST_PLATES + other] = wide;
                widths[other * MOST_PLATES + plate] = wide;
                chutes++;
            }
        }

        void joinDrain(int plate, int wide) {
            if (has(plate)) {
                toDrain[plate] = wide;
                chutes++;
            }
        }

        int joinedTo(int plate) {
            int bits = 0;
            for (int i = 0; i < plates; i++) {
                if (width(plate, i) > 0) {
                    bits |= 1 << i;
                }
            }
            return bits;
        }

        int widthTo(int plate, int set) {
            int wide = 0;
            for (int i = 0; i < plates && has(plate); i++) {
                if ((set >> i & 1) != 0) {
                    wide += widths[plate * MOST_PLATES + i];
                }
            }
            return wide;
        }

        /** The drain burns with every set. */
        int widthToBurnt(int plate, int set) {
            return has(plate) ? toDrain[plate] + widthTo(plate, set) : 0;
        }

        /** Works out brims and steps to the drain; whether every plate has a way to it. */
        boolean finish() {
            int all = (1 << plates) - 1;
            for (int i = 0; i < plates; i++) {
                brim[i] = widthToBurnt(i, all);
            }
            int reached = 0;
            for (int step = 1; step <= MOST_PLATES; step++) {
                int next = reached;
                for (int i = 0; i < plates; i++) {
                    if ((reached >> i & 1) == 0 && widthToBurnt(i, reached) > 0) {
                        steps[i] = step;
                        next |= 1 << i;
                    }
                }
                reached = next;
            }
            return reached == all;
        }

        int overfull(int[] heap) {
            int bits = 0;
            for (int i = 0; i < plates; i++) {
                if (heap[i] >= brim[i]) {
                    bits |= 1 << i;
                }
            }
            return bits;
        }

        int grainsOf(int[] heap) {
            int together = 0;
            for (int i = 0; i < plates; i++) {
                together += heap[i];
            }
            return together;
        }

        int allBrims() {
            return grainsOf(brim);
        }

        /** How wide the chutes from plate to plate are together. */
        int betweenPlates() {
            return (allBrims() - grainsOf(toDrain)) / 2;
        }

        boolean exchangeable(int plate, int other) {
            if (!has(plate) || !has(other) || toDrain[plate] != toDrain[other]) {
                return false;
            }
            for (int i = 0; i < plates; i++) {
                if (i != plate && i != other && width(plate, i) != width(other, i)) {
                    return false;
                }
            }
            return true;
        }
    }

    /** What falls, as signs each of which stands behind those that it joins. */
    private static final class Formula {
        // Below these a sign is the number itself: four digits at most.
        static final int GRAINS = 10000;
        static final int BRIM = 10001;
        static final int NUMBER = 10002;
        static final int DAYS = 10003;
        static final int NOT = 10010;
        static final int AND = 10011;
        static final int OR = 10012;
        static final int LESS = 10013;
        static final int MORE = 10014;
        static final int SAME = 10015;
        static final int PLUS = 10016;
        static final int MINUS = 10017;
        static final int TIMES = 10018;
        static final int OVER = 10019;
        static final int LEFT = 10020;

        // 30 units, 29 signs that join two, 7 nots ahead of each unit.
        private static final int MOST_SIGNS = 300;
        private static final int MOST_OPEN = 40;

        private final int[] signs = new int[MOST_SIGNS];
        private final int[] open = new int[MOST_OPEN];
        private int length;

        void clear() {
            length = 0;
        }

        void add(int sign) {
            if (length < MOST_SIGNS) {
                signs[length] = sign;
                length++;
            }
        }

        int worth(int grains, int brim, int number, int day) {
            int top = 0;
            for (int i = 0; i < length; i++) {
                int sign = signs[i];
                if (sign < NOT) {
                    if (top >= MOST_OPEN) {
                        return 0;
                    }
                    open[top] = sign < GRAINS ? sign : named(sign, grains, brim, number, day);
                    top++;
                } else if (sign == NOT) {
                    if (top < 1) {
                        return 0;
                    }
                    open[top - 1] = open[top - 1] == 0 ? 1 : 0;
                } else {
                    if (top < 2) {
                        return 0;
                    }
                    top--;
                    open[top - 1] = joined(sign, open[top - 1], open[top]);
                }
            }
            return top == 1 ? open[0] : 0;
        }

        private static int named(int sign, int grains, int brim, int number, int day) {
            switch (sign) {
                case GRAINS: return grains;
                case BRIM: return brim;
                case NUMBER: return number;
                default: return day;
            }
        }

        private static int joined(int sign, int a, int b) {
            switch (sign) {
                case AND: return a != 0 && b != 0 ? 1 : 0;
                case OR: return a != 0 || b != 0 ? 1 : 0;
                case LESS: return a < b ? 1 : 0;
                case MORE: return a > b ? 1 : 0;
                case SAME: return a == b ? 1 : 0;
                case PLUS: return a + b;
                case MINUS: return a - b;
                case TIMES: return a * b;
                case OVER: return b == 0 ? 0 : a / b;
                case LEFT: return b == 0 ? 0 : a % b;
                default: return 0;
            }
        }
    }

    /** Parts a text into tokens; a sign's kind is its byte. */
    private static final class Tokens {
        static final int END = 0;
        static final int BAD = 1;
        static final int NAME = 2;
        static final int NUMBER = 3;
        // The words that stand for themselves, in the order of KEYS.
        static final int PLATE = 100;
        static final int HOLDS = 101;
        static final int CHUTE = 102;
        static final int WIDE = 103;
        static final int DRAIN_WORD = 104;
        static final int FALLS = 105;
        static final int LUCK = 106;
        static final int DRAW = 107;
        static final int OR = 108;
        static final int AND = 109;
        static final int NOT = 110;
        static final int GRAINS = 111;
        static final int BRIM = 112;
        static final int NUMBER_WORD = 113;
        static final int DAY_WORD = 114;

        private static final String KEYS =
            "plate holds chute wide drain falls luck draw or and not grains brim number day ";
        private static final String SIGNS = ";()<>=+-*/%";
        private static final int KEY_COUNT = 15;
        private static final int MOST_LETTERS = 8;
        private static final int MOST_DIGITS = 4;

        private final long[] keys = new long[KEY_COUNT];
        private int[] text = new int[0];
        private int length;
        private int at;
        int kind;
        int place;
        /** Of a word: its letters, five bits each; of a number: itself. */
        long worth;

        Tokens() {
            int key = 0;
            long packed = 0;
            for (int i = 0; i < KEYS.length() && key < KEY_COUNT; i++) {
                char c = KEYS.charAt(i);
                if (c == ' ') {
                    keys[key] = packed;
                    key++;
                    packed = 0;
                } else {
                    packed = packed * 32 + (c - 'a' + 1);
                }
            }
        }

        void start(int[] bytes, int many) {
            text = bytes;
            length = Math.min(many, bytes.length);
            at = 0;
            next();
        }

        void next() {
            while (at < length && (text[at] == 32 || text[at] == 10)) {
                at++;
            }
            place = at;
            worth = 0;
            if (at >= length) {
                kind = END;
            } else if (isLetter(text[at])) {
                readWord();
            } else if (isDigit(text[at])) {
                readNumber();
            } else {
                kind = SIGNS.indexOf((char) text[at]) >= 0 ? text[at] : BAD;
                at++;
            }
        }

        private static boolean isLetter(int c) {
            return c >= 'a' && c <= 'z';
        }

        private static boolean isDigit(int c) {
            return c >= '0' && c <= '9';
        }

        private void readWord() {
            while (at < length && isLetter(text[at])) {
                worth = worth * 32 + (text[at] - 'a' + 1);
                at++;
            }
            kind = at - place > MOST_LETTERS ? BAD : kindOfWord(worth);
        }

        private int kindOfWord(long word) {
            for (int i = 0; i < KEY_COUNT; i++) {
                if (keys[i] == word) {
                    return PLATE + i;
                }
            }
            return NAME;
        }

        private void readNumber() {
            while (at < length && isDigit(text[at])) {
                worth = worth * 10 + (text[at] - '0');
                at++;
            }
            boolean letterBehind = at < length && isLetter(text[at]);
            kind = at - place > MOST_DIGITS || letterBehind ? BAD : NUMBER;
        }
    }

    /** Reads a table; as it goes from place to place, the first fault it meets is the one to tell. */
    private static final class Reader {
        private static final int NO_TOKEN = 1;
        private static final int OUT_OF_PLACE = 2;
        private static final int TOLD_ALREADY = 3;
        private static final int BAD_NUMBER = 4;
        private static final int UNKNOWN_NAME = 5;
        private static final int NO_WAY = 6;
        // A table tells falls once, so that its 60 units in all come to the 30 of one formula.
        private static final int MOST_UNITS = 30;
        private static final int MOST_WITHIN = 6;

        private final Tokens tokens = new Tokens();
        private final long[] names = new long[MOST_PLATES];
        private Board board;
        private boolean fallsTold;
        private boolean luckTold;
        private boolean drawTold;
        int fault;
        int faultPlace;

        boolean read(int[] text, int length, Board into) {
            board = into;
            board.clear();
            fallsTold = false;
            luckTold = false;
            drawTold = false;
            fault = 0;
            faultPlace = NONE;
            tokens.start(text, length);
            for (int line = 0; line < MOST_BYTES && fault == 0 && tokens.kind != Tokens.END; line++) {
                readLine();
            }
            if (fault == 0 && !board.finish()) {
                tellFault(NO_WAY, length);
            }
            return fault == 0;
        }

        private void tellFault(int kind, int place) {
            if (fault == 0) {
                fault = kind;
                faultPlace = place;
            }
        }

        private void refuseToken() {
            tellFault(tokens.kind == Tokens.BAD ? NO_TOKEN : OUT_OF_PLACE, tokens.place);
        }

        private void readLine() {
            int first = tokens.kind;
            if (!canBegin(first)) {
                refuseToken();
                return;
            }
            tokens.next();
            switch (first) {
                case Tokens.PLATE: readPlate(); break;
                case Tokens.CHUTE: readChute(); break;
                case Tokens.DRAIN_WORD: readDrain(); break;
                case Tokens.FALLS: fallsTold = true; readEither(0); break;
                case Tokens.LUCK: luckTold = true; board.luck = readNumber(0, 100); break;
                default: drawTold = true; board.draw = readNumber(0, 999); break;
            }
            expect(';');
        }

        private boolean canBegin(int first) {
            switch (first) {
                case Tokens.PLATE: return board.plates < MOST_PLATES;
                case Tokens.CHUTE: return true;
                case Tokens.DRAIN_WORD: return true;
                case Tokens.FALLS: return !fallsTold;
                case Tokens.LUCK: return !luckTold;
                case Tokens.DRAW: return !drawTold;
                default: return false;
            }
        }

        private void expect(int sign) {
            if (fault != 0) {
                return;
            }
            if (tokens.kind == sign) {
                tokens.next();
            } else {
                refuseToken();
            }
        }

        private int readNumber(int least, int most) {
            if (fault != 0) {
                return least;
            }
            if (tokens.kind != Tokens.NUMBER) {
                refuseToken();
                return least;
            }
            if (tokens.worth < least || tokens.worth > most) {
                tellFault(BAD_NUMBER, tokens.place);
                return least;
            }
            int number = (int) tokens.worth;
            tokens.next();
            return number;
        }

        private int readWidth() {
            if (fault != 0 || tokens.kind != Tokens.WIDE) {
                return 1;
            }
            tokens.next();
            return readNumber(1, 2);
        }

        private int find(long name) {
            for (int i = 0; i < board.plates; i++) {
                if (names[i] == name) {
                    return i;
                }
            }
            return NONE;
        }

        /** The number of the plate that is named here; it stays the token, as more may be wrong with it. */
        private int knownPlate() {
            if (fault != 0) {
                return NONE;
            }
            if (tokens.kind != Tokens.NAME) {
                refuseToken();
                return NONE;
            }
            int plate = find(tokens.worth);
            if (plate == NONE) {
                tellFault(UNKNOWN_NAME, tokens.place);
            }
            return plate;
        }

        private void readPlate() {
            if (tokens.kind != Tokens.NAME || board.plates >= MOST_PLATES) {
                refuseToken();
                return;
            }
            if (find(tokens.worth) != NONE) {
                tellFault(TOLD_ALREADY, tokens.place);
                return;
            }
            int plate = board.plates;
            names[plate] = tokens.worth;
            board.plates++;
            tokens.next();
            if (tokens.kind == Tokens.HOLDS) {
                tokens.next();
                board.holds[plate] = readNumber(0, 99);
            }
        }

        private void readChute() {
            int plate = knownPlate();
            if (fault != 0) {
                return;
            }
            tokens.next();
            int other = knownPlate();
            if (fault != 0) {
                return;
            }
            if (plate == other || board.width(plate, other) > 0) {
                tellFault(TOLD_ALREADY, tokens.place);
                return;
            }
            tokens.next();
            board.join(plate, other, readWidth());
        }

        private void readDrain() {
            int plate = knownPlate();
            if (fault != 0) {
                return;
            }
            if (board.toDrain[plate] > 0) {
                tellFault(TOLD_ALREADY, tokens.place);
                return;
            }
            tokens.next();
            board.joinDrain(plate, readWidth());
        }

        // Each turn of the loops below reads a unit or tells a fault: the bound on units ends them.
        private void readEither(int within) {
            readBoth(within);
            for (int i = 0; i < MOST_UNITS && fault == 0 && tokens.kind == Tokens.OR; i++) {
                tokens.next();
                readBoth(within);
                board.falls.add(Formula.OR);
            }
        }

        private void readBoth(int within) {
            readOne(within);
            for (int i = 0; i < MOST_UNITS && fault == 0 && tokens.kind == Tokens.AND; i++) {
                tokens.next();
                readOne(within);
                board.falls.add(Formula.AND);
            }
        }

        private void readOne(int within) {
            if (tokens.kind == Tokens.NOT) {
                readNot(within);
                return;
            }
            readSum(within);
            int sign = relation(tokens.kind);
            if (fault == 0 && sign != NONE) {
                tokens.next();
                readSum(within);
                board.falls.add(sign);
            }
        }

        private void readNot(int within) {
            if (within > MOST_WITHIN) {
                tellFault(OUT_OF_PLACE, tokens.place);
                return;
            }
            tokens.next();
            readOne(within + 1);
            board.falls.add(Formula.NOT);
        }

        private static int relation(int kind) {
            switch (kind) {
                case '<': return Formula.LESS;
                case '>': return Formula.MORE;
                case '=': return Formula.SAME;
                default: return NONE;
            }
        }

        private void readSum(int within) {
            readTerm(within);
            for (int i = 0; i < MOST_UNITS && fault == 0 && (tokens.kind == '+' || tokens.kind == '-'); i++) {
                int sign = tokens.kind == '+' ? Formula.PLUS : Formula.MINUS;
                tokens.next();
                readTerm(within);
                board.falls.add(sign);
            }
        }

        private void readTerm(int within) {
            readUnit(within);
            int sign = product(tokens.kind);
            for (int i = 0; i < MOST_UNITS && fault == 0 && sign != NONE; i++) {
                tokens.next();
                readUnit(within);
                board.falls.add(sign);
                sign = product(tokens.kind);
            }
        }

        private static int product(int kind) {
            switch (kind) {
                case '*': return Formula.TIMES;
                case '/': return Formula.OVER;
                case '%': return Formula.LEFT;
                default: return NONE;
            }
        }

        private void readUnit(int within) {
            if (fault != 0) {
                return;
            }
            boolean opens = tokens.kind == '(';
            int sign = unitSign();
            if (!opens && sign == NONE) {
                refuseToken();
                return;
            }
            if (board.units >= MOST_UNITS || opens && within > MOST_WITHIN) {
                tellFault(OUT_OF_PLACE, tokens.place);
                return;
            }
            board.units++;
            tokens.next();
            if (opens) {
                readEither(within + 1);
                expect(')');
            } else {
                board.falls.add(sign);
            }
        }

        private int unitSign() {
            switch (tokens.kind) {
                case Tokens.NUMBER: return (int) tokens.worth;
                case Tokens.GRAINS: return Formula.GRAINS;
                case Tokens.BRIM: return Formula.BRIM;
                case Tokens.NUMBER_WORD: return Formula.NUMBER;
                case Tokens.DAY_WORD: return Formula.DAYS;
                default: return NONE;
            }
        }
    }

    /** A heap to settle, and what that came to. */
    private static final class Sand {
        final int[] grains = new int[MOST_PLATES];
        final int[] often = new int[MOST_PLATES];
        int topplings;
        int drained;

        void take(int[] heap) {
            for (int i = 0; i < MOST_PLATES; i++) {
                grains[i] = i < heap.length ? heap[i] : 0;
                often[i] = 0;
            }
            topplings = 0;
            drained = 0;
        }

        void put(int plate, int many) {
            if (plate >= 0 && plate < MOST_PLATES) {
                grains[plate] += many;
            }
        }

        /** As the order is free, a plate topples as often as it can at once. */
        void calm(Board board) {
            boolean moved = true;
            for (int pass = 0; pass < ENOUGH && moved; pass++) {
                moved = false;
                for (int i = 0; i < board.plates; i++) {
                    int brim = board.brim[i];
                    if (brim > 0 && grains[i] >= brim) {
                        tip(board, i, grains[i] / brim);
                        moved = true;
                    }
                }
            }
        }

        void tip(Board board, int plate, int times) {
            if (!board.has(plate)) {
                return;
            }
            grains[plate] -= board.brim[plate] * times;
            for (int i = 0; i < board.plates; i++) {
                grains[i] += board.widths[plate * MOST_PLATES + i] * times;
            }
            drained += board.toDrain[plate] * times;
            often[plate] += times;
            topplings += times;
        }

        int toppled(int plates) {
            int bits = 0;
            for (int i = 0; i < plates && i < MOST_PLATES; i++) {
                if (often[i] > 0) {
                    bits |= 1 << i;
                }
            }
            return bits;
        }
    }

    /** The states that acts led to: that at `at` is always the one of now. */
    private static final class Acts {
        private static final int MOST = 40;

        private final int[] states = new int[(MOST + 1) * STATE];
        int at;
        int last;

        void forget(int[] state) {
            at = 0;
            last = 0;
            System.arraycopy(state, 0, states, 0, STATE);
        }

        void keep(int[] state) {
            if (at < MOST) {
                at++;
            } else {
                System.arraycopy(states, STATE, states, 0, MOST * STATE);
            }
            last = at;
            System.arraycopy(state, 0, states, at * STATE, STATE);
        }

        boolean goBack(int[] state) {
            if (at <= 0) {
                return false;
            }
            at--;
            System.arraycopy(states, at * STATE, state, 0, STATE);
            return true;
        }

        boolean goOn(int[] state) {
            if (at >= last) {
                return false;
            }
            at++;
            System.arraycopy(states, at * STATE, state, 0, STATE);
            return true;
        }
    }

    /** Heaps that are one by lending: all of it comes of the square of brims and widths, by its minors. */
    private static final class Group {
        private static final int SETS = 32;
        // Three grains may be taken away, and then the heap must still be full enough to come again.
        private static final int SPARE = 4;

        // The minor of a set of rows and a set of columns of as many.
        private final int[] minors = new int[SETS * SETS];
        private int all;
        // A heap that is one with no grains, and has on each plate as many more as it may lack.
        private final int[] filler = new int[MOST_PLATES];
        private final Sand sand = new Sand();
        final int[] parts = new int[MOST_PLATES];
        int partCount;
        // Of the empty table, till another is learnt.
        long size = 1;

        void learn(Board board) {
            all = (1 << board.plates) - 1;
            minors[0] = 1;
            for (int rows = 1; rows <= all; rows++) {
                for (int columns = 1; columns <= all; columns++) {
                    if (Integer.bitCount(rows) == Integer.bitCount(columns)) {
                        minors[rows * SETS + columns] = expanded(board, rows, columns);
                    }
                }
            }
            size = minors[all * SETS + all];
            learnParts(board.plates);
            learnFiller(board);
        }

        private int expanded(Board board, int rows, int columns) {
            int row = Integer.numberOfTrailingZeros(rows);
            int sign = 1;
            int worth = 0;
            for (int c = 0; c < MOST_PLATES; c++) {
                if ((columns >> c & 1) != 0) {
                    int entry = c == row ? board.brim[c] : -board.width(row, c);
                    worth += sign * entry * minors[(rows & ~(1 << row)) * SETS + (columns & ~(1 << c))];
                    sign = -sign;
                }
            }
            return worth;
        }

        // The product of the first parts is what divides all minors of that many rows.
        private void learnParts(int plates) {
            partCount = 0;
            long before = 1;
            for (int many = 1; many <= plates; many++) {
                long divisor = divisorOfMinors(many);
                long part = before > 0 ? divisor / before : 0;
                if (part > 1 && partCount < MOST_PLATES) {
                    parts[partCount] = (int) part;
                    partCount++;
                }
                before = divisor;
            }
        }

        private long divisorOfMinors(int many) {
            long divisor = 0;
            for (int rows = 1; rows <= all; rows++) {
                for (int columns = 1; columns <= all; columns++) {
                    if (Integer.bitCount(rows) == many && Integer.bitCount(columns) == many) {
                        divisor = commonDivisor(divisor, minors[rows * SETS + columns]);
                    }
                }
            }
            return divisor;
        }

        private void learnFiller(Board board) {
            for (int i = 0; i < MOST_PLATES; i++) {
                filler[i] = i < board.plates ? 2 * (board.brim[i] - 1) + SPARE : 0;
            }
            sand.take(filler);
            sand.calm(board);
            for (int i = 0; i < MOST_PLATES; i++) {
                filler[i] -= sand.grains[i];
            }
        }

        /** The entry of the inverse square, as many times as heaps come again. */
        long cofactor(int plate, int other) {
            int rows = all & ~(1 << plate);
            int columns = all & ~(1 << other);
            long minor = minors[rows * SETS + columns];
            return (plate + other) % 2 == 0 ? minor : -minor;
        }

        /** How often a heap must be added together till it is one with no grains. */
        long turns(Board board, int[] heap) {
            long divisor = size;
            for (int i = 0; i < board.plates; i++) {
                long entry = 0;
                for (int j = 0; j < board.plates; j++) {
                    entry += cofactor(i, j) * heap[j];
                }
                divisor = commonDivisor(divisor, entry);
            }
            return divisor > 0 ? size / divisor : 1;
        }

        /** No plate may have fewer than -3 grains. */
        void toOwn(Board board, int[] heap) {
            sand.take(heap);
            for (int i = 0; i < board.plates; i++) {
                sand.put(i, filler[i]);
            }
            sand.calm(board);
            for (int i = 0; i < board.plates; i++) {
                heap[i] = sand.grains[i];
            }
        }

        void toBare(Board board, int[] heap) {
            toOwn(board, heap);
            turnOver(board, heap);
            toOwn(board, heap);
            turnOver(board, heap);
        }

        private static void turnOver(Board board, int[] heap) {
            for (int i = 0; i < board.plates; i++) {
                heap[i] = board.brim[i] - 1 - heap[i];
            }
        }
    }

    /** The fire from the drain, and what is told by it. */
    private static final class Fire {
        // Five plates with nine grains each at most.
        private static final int LEVELS = 46;
        private static final int SETS = 32;
        // A plate lacks nine grains at most: four bits hold them.
        private static final int DIGIT = 4;
        private static final int LAST_DIGIT = 15;
        private static final int TOGETHER = 20;
        private static final int TOO_DEAR = 2147483647;

        private final int[] byLevel = new int[LEVELS];
        private final int[][] growing = new int[MOST_PLATES + 1][LEVELS];
        private final int[] cheapest = new int[SETS];
        private boolean counted;

        void forget() {
            counted = false;
        }

        int burn(Board board, int[] heap, Lying order) {
            int burnt = 0;
            int next = firstToBurn(board, heap, burnt);
            for (int i = 0; i < MOST_PLATES && next != NONE; i++) {
                burnt |= 1 << next;
                order.put(next);
                next = firstToBurn(board, heap, burnt);
            }
            return Integer.bitCount(burnt);
        }

        private static int firstToBurn(Board board, int[] heap, int burnt) {
            for (int i = 0; i < board.plates; i++) {
                if ((burnt >> i & 1) == 0 && heap[i] >= board.brim[i] - board.widthToBurnt(i, burnt)) {
                    return i;
                }
            }
            return NONE;
        }

        int ofLevel(Board board, int grains) {
            if (!counted) {
                Arrays.fill(byLevel, 0);
                Arrays.fill(growing[0], 0);
                growing[0][0] = 1;
                countFrom(board, 0, 0, 0);
                counted = true;
            }
            return grains >= 0 && grains < LEVELS ? byLevel[grains] : 0;
        }

        // If all that can burn does at once, each heap that comes again burns in its own row of sets.
        // growing[depth] tells how many heaps of each level burn in the row of sets so far.
        private void countFrom(Board board, int burnt, int latest, int depth) {
            int left = ((1 << board.plates) - 1) & ~burnt;
            if (left == 0) {
                for (int i = 0; i < LEVELS; i++) {
                    byLevel[i] += growing[depth][i];
                }
                return;
            }
            if (depth >= MOST_PLATES) {
                return;
            }
            for (int set = left; set > 0; set = (set - 1) & left) {
                countWith(board, burnt, latest, set, depth);
            }
        }

        private void countWith(Board board, int burnt, int latest, int set, int depth) {
            if (growBy(board, burnt, latest, set, depth)) {
                countFrom(board, burnt | set, set, depth + 1);
            }
        }

        // A plate burns just now if it has enough by what has burnt, and had too few before the latest did.
        private boolean growBy(Board board, int burnt, int latest, int set, int depth) {
            int[] grown = growing[depth + 1];
            System.arraycopy(growing[depth], 0, grown, 0, LEVELS);
            for (int i = 0; i < board.plates; i++) {
                if ((set >> i & 1) != 0) {
                    int choices = depth == 0 ? board.toDrain[i] : board.widthTo(i, latest);
                    if (choices == 0) {
                        return false;
                    }
                    spread(grown, board.brim[i] - board.widthToBurnt(i, burnt), choices);
                }
            }
            return true;
        }

        // From the top down, so that what is read has not been written yet.
        private static void spread(int[] counts, int least, int choices) {
            for (int i = LEVELS - 1; i >= 0; i--) {
                int many = 0;
                for (int more = least; more < least + choices && more <= i; more++) {
                    many += counts[i - more];
                }
                counts[i] = many;
            }
        }

        /**
         * In whatever order plates burn, each needs so many grains: the cheapest order to burn each set.
         * A price has the grains together as its first digit, then those of each plate, so that the less
         * of two is the one to be told.
         */
        int leastToAdd(Board board, int[] heap, Lying added) {
            int all = (1 << board.plates) - 1;
            cheapest[0] = 0;
            for (int set = 1; set <= all; set++) {
                cheapest[set] = TOO_DEAR;
                for (int i = 0; i < board.plates; i++) {
                    int before = set & ~(1 << i);
                    if (before != set && cheapest[before] < TOO_DEAR) {
                        cheapest[set] = Math.min(cheapest[set], priceWith(board, heap, before, i));
                    }
                }
            }
            for (int i = 0; i < board.plates; i++) {
                added.put(cheapest[all] >> digitOf(i) & LAST_DIGIT);
            }
            return cheapest[all] >> TOGETHER;
        }

        // A plate that nothing burnt is joined to would have to be so full that it topples.
        private int priceWith(Board board, int[] heap, int before, int plate) {
            int wide = board.widthToBurnt(plate, before);
            if (wide == 0) {
                return TOO_DEAR;
            }
            int lacks = Math.max(0, board.brim[plate] - wide - heap[plate]);
            return cheapest[before] + lacks * ((1 << TOGETHER) + (1 << digitOf(plate)));
        }

        private static int digitOf(int plate) {
            return DIGIT * (MOST_PLATES - 1 - plate);
        }
    }

    /** What was seen, when it was told and taken back, and what the last plate may have had by it. */
    private static final class Sights {
        private static final int MOST = 30;
        private static final int GUESSES = 31;
        private static final int MOST_BRIM = 10;
        private static final int LATEST = 100000;

        private final int[] plateOf = new int[MOST];
        private final int[] manyOf = new int[MOST];
        private final boolean[] isOf = new boolean[MOST];
        private final int[] toldAt = new int[MOST];
        private final int[] untoldAt = new int[MOST];
        private final int[] ends = new int[GUESSES * MOST_PLATES];
        private final boolean[] fitting = new boolean[GUESSES];
        private final int[] tally = new int[MOST_BRIM];
        private final Sand sand = new Sand();
        private boolean ready;
        int count;
        int time;
        int least;
        int greatest;

        void forget() {
            count = 0;
            ready = false;
        }

        int tell(int plate, int many, boolean is) {
            if (count >= MOST) {
                return NONE;
            }
            plateOf[count] = plate;
            manyOf[count] = many;
            isOf[count] = is;
            toldAt[count] = time;
            untoldAt[count] = NONE;
            count++;
            return count - 1;
        }

        boolean takeBack(int number) {
            if (number < 0 || number >= count || untoldAt[number] != NONE) {
                return false;
            }
            untoldAt[number] = time;
            return true;
        }

        int goLater(int by) {
            if (by < 0 || by > 1000 || time + by > LATEST) {
                return NONE;
            }
            time += by;
            return time;
        }

        /** How many guesses fit as known at a time; marks them, and the least and the greatest of them. */
        int weigh(Board board, int k) {
            if (board.plates == 0) {
                return 0;
            }
            prepare(board);
            int many = 0;
            for (int guess = 0; guess < GUESSES; guess++) {
                fitting[guess] = agrees(guess, k);
                if (fitting[guess]) {
                    least = many == 0 ? guess : least;
                    greatest = guess;
                    many++;
                }
            }
            return many;
        }

        // One grain more on what has settled ends as one grain more from the start would.
        private void prepare(Board board) {
            if (ready) {
                return;
            }
            int last = board.plates - 1;
            sand.take(board.holds);
            sand.grains[last] = 0;
            for (int guess = 0; guess < GUESSES; guess++) {
                sand.calm(board);
                for (int i = 0; i < MOST_PLATES; i++) {
                    ends[guess * MOST_PLATES + i] = sand.grains[i];
                }
                sand.put(last, 1);
            }
            ready = true;
        }

        private boolean agrees(int guess, int k) {
            for (int i = 0; i < count; i++) {
                boolean counts = toldAt[i] <= k && (untoldAt[i] == NONE || untoldAt[i] > k);
                boolean so = ends[guess * MOST_PLATES + plateOf[i]] >= manyOf[i];
                if (counts && so != isOf[i]) {
                    return false;
                }
            }
            return true;
        }

        /** How many of the guesses that fit one look at a plate leaves at the most. */
        int leftAtMost(int plate) {
            Arrays.fill(tally, 0);
            int most = 0;
            for (int guess = 0; guess < GUESSES; guess++) {
                int end = ends[guess * MOST_PLATES + plate];
                if (fitting[guess] && end >= 0 && end < MOST_BRIM) {
                    tally[end]++;
                    most = Math.max(most, tally[end]);
                }
            }
            return most;
        }
    }

    /** The numbers that lie there. */
    private static final class Lying {
        static final int MOST = 60;

        final int[] numbers = new int[MOST];
        int count;

        void clear() {
            count = 0;
        }

        void put(int number) {
            if (count < MOST) {
                numbers[count] = number;
                count++;
            }
        }
    }
}
