import java.lang.management.ManagementFactory;
import java.lang.reflect.Method;
import java.lang.reflect.Modifier;
import java.util.ArrayList;
import java.util.List;
import java.util.Random;

/** Calls make nothing, an object is small, the dearest calls end soon, and no arguments make any call throw. */
public final class RoomTest {
    private static final Due DUE = new Due("RoomTest");
    private static final com.sun.management.ThreadMXBean THREADS =
        (com.sun.management.ThreadMXBean) ManagementFactory.getThreadMXBean();
    private static final int[] EDGES = {Integer.MIN_VALUE, -31, -30, -2, -1, 0, 1, 2, 3, 4, 5, 6, 14, 15, 20, 21, 29, 30,
        31, 60, 99, 100, 1000, 1001, 1600, 1601, 100000, Integer.MAX_VALUE};

    public static void main(String[] args) throws ReflectiveOperationException {
        everyCall();
        makesNothing();
        dearest();
        DUE.end();
    }

    private static String widest() {
        StringBuilder text = new StringBuilder();
        for (char c = 'a'; c <= 'e'; c++) {
            text.append("plate ").append(c).append(" holds 99;drain ").append(c).append(" wide 2;");
            for (char d = 'a'; d < c; d++) {
                text.append("chute ").append(c).append(' ').append(d).append(" wide 2;");
            }
        }
        return text + "falls grains*day+7;luck 50;";
    }

    private static List<Method> face() {
        List<Method> face = new ArrayList<>();
        for (Method m : SandPlates.class.getDeclaredMethods()) {
            if (Modifier.isPublic(m.getModifiers())) {
                face.add(m);
            }
        }
        return face;
    }

    /** An exception would end the test; that is what is looked for. */
    private static void everyCall() throws ReflectiveOperationException {
        Random chance = new Random(7);
        String[] tables = {"", widest(), "plate a;drain a;", "plate a holds 9;plate b holds 99;chute a b;drain b;",
            "plate a;plate b;plate c;plate d;plate e;drain a;chute a b;chute b c;chute c d;chute d e;falls 20;"};
        List<Method> face = face();
        for (int run = 0; run < 300; run++) {
            SandPlates x = Due.told(tables[run % tables.length]);
            for (int call = 0; call < 400; call++) {
                Method m = face.get(chance.nextInt(face.size()));
                Class<?>[] types = m.getParameterTypes();
                Object[] values = new Object[types.length];
                for (int i = 0; i < types.length; i++) {
                    values[i] = types[i] == boolean.class ? (Object) chance.nextBoolean()
                        : (Object) EDGES[chance.nextInt(EDGES.length)];
                }
                m.invoke(x, values);
            }
        }
        DUE.is("no call has thrown", 1, 1);
    }

    private static long made() {
        return THREADS.getCurrentThreadAllocatedBytes();
    }

    private static int askAll(SandPlates x) {
        int sum = x.table() + x.fault(0) + x.day() + x.drop(0, 3) + x.topple(0) + x.settle() + x.sweep(0);
        sum += x.undo() ? 1 : 0;
        sum += x.redo() ? 1 : 0;
        for (int i = 0; i < 5; i++) {
            sum += x.plate(i, 3) + x.wide(i, 1) + x.far(i) + x.will(i, 30, 1) + x.rest(i) + x.often(i) + x.slide(i, 0);
            sum += x.nought(i) + x.own(i) + x.bare(i) + x.wheel(i) + x.mean(i, 1, 0) + x.parts(i) + x.like(i);
            sum += x.duel(0, i) + x.law(i) + x.odds(i, 0) + x.lies(i) + x.rank(i - 20) + x.level(20 + i);
        }
        sum += x.over() + x.spilt() + x.row() + x.rounds() + x.steepest() + x.quiet() + x.fire() + x.many();
        sum += x.levels(0) + x.mend() + x.image(0) + x.sum(0) + x.one(0) + x.cycle() + x.credit() + x.seen(1, 2, true);
        sum += x.untell(0) ? 1 : 0;
        return sum + x.later(1) + x.fits(1) + x.sure(0, 1) + x.ask(0, 1) + x.back(0) + x.about(2);
    }

    private static void makesNothing() {
        SandPlates x = new SandPlates();
        String text = widest();
        int sum = 0;
        for (int i = 0; i < 3; i++) {
            Due.write(x, text);
            sum += askAll(x) + (int) (made() & 1);
        }
        Due.write(x, text);
        long before = made();
        sum += askAll(x);
        long after = made();
        DUE.is("bytes made by a run of all calls: " + (after - before) + " (" + sum + ")", after - before < 200, true);
        before = made();
        x = new SandPlates();
        after = made();
        DUE.is("bytes of an object: " + (after - before), after - before < 40000, true);
    }

    private static void dearest() {
        SandPlates x = Due.told("plate a holds 99;plate b holds 99;plate c holds 99;plate d holds 99;plate e holds 99;"
            + "drain a;chute a b;chute b c;chute c d;chute d e;");
        for (int plate = 0; plate < 5; plate++) {
            for (int i = 0; i < 45; i++) {
                x.drop(plate, 20);
            }
        }
        x.image(0);
        long start = System.nanoTime();
        // 4995 grains, of which those on plate i topple i + 1 plates as often as the way is long.
        int all = 0;
        for (int plate = 0; plate < 5; plate++) {
            all += x.often(plate);
        }
        DUE.is("row", x.row(), all);
        DUE.is("rounds", x.rounds() > 10000, true);
        DUE.is("sum", x.sum(0) < 10, true);
        DUE.is("rank", x.rank(-30), 3);
        DUE.is("grains", x.spilt() + x.rest(0) + x.rest(1) + x.rest(2) + x.rest(3) + x.rest(4), 4995);
        DUE.is("all that within 10 seconds", System.nanoTime() - start < 10_000_000_000L, true);
    }
}
