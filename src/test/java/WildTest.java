import java.lang.management.ManagementFactory;
import java.lang.reflect.InvocationTargetException;
import java.lang.reflect.Method;
import java.lang.reflect.Modifier;
import java.util.ArrayList;
import java.util.Comparator;
import java.util.List;
import java.util.NoSuchElementException;
import java.util.Random;

/**
 * Any arguments in any state: nothing is thrown but NoSuchElementException by fact and parted; a full object
 * answers its dearest calls soon; and calls make next to no objects.
 */
public final class WildTest {
    private static final int[] EDGES = {Integer.MIN_VALUE, -1000, -2, -1, 0, 1, 2, 3, 4, 5, 6, 7, 8, 9, 10, 11, 12, 19,
        20, 21, 23, 24, 39, 40, 41, 79, 80, 99, 100, 255, 256, 999, 1000, 4095, 4096, 9999, 10000, Integer.MAX_VALUE};
    private static int wrong;

    private static void due(boolean so, String what) {
        if (!so) {
            wrong++;
            System.out.println("not as due: " + what);
        }
    }

    private static long feed(AxesAtDawn x, String text) {
        for (int from = 0; from < text.length(); from += 24) {
            long[] v = new long[3];
            for (int i = 0; i < 24; i++) {
                v[i / 8] = v[i / 8] << 8 | (from + i < text.length() ? text.charAt(from + i) : 0);
            }
            x.feed(v[0], v[1], v[2]);
        }
        return x.law();
    }

    /** 40 FINDS, 5 at each SITE, all DOUBTED; 80 lines; 36 GROUNDS that lean on one another; a long LAW. */
    private static AxesAtDawn full() {
        AxesAtDawn x = new AxesAtDawn();
        StringBuilder law = new StringBuilder("bar when rust and under;odd when ");
        while (law.length() < 500) {
            law.append("dawn*3-2<");
            law.append("(not(not hour+age)*others)or ");
        }
        law.append("1;rule 1 stops worn;rule 2 stops fresh;rule 7 stops 1;enough when ");
        while (law.length() < 960) {
            law.append("0*day+finds*0-");
        }
        law.append("finds+papers;");
        due(feed(x, law.toString()) == 0, "the long law");
        for (int i = 0; i < 80; i++) {
            x.layer(i % 8, i / 8, 10 * i);
            x.wealth(i % 8, i / 8, i % 10);
            x.way(i % 8, i / 8, 500);
            x.here(i % 10, i % 8, i, 0, 23);
            x.skill(i % 10, i % 10, 9 - i % 10);
            x.shows(i % 8, i % 10, 9 - i % 10);
        }
        for (int i = 0; i < 40; i++) {
            x.find(i % 8, i / 8, i, 12, i % 10, 16 << i % 2, i % 4);
        }
        for (int i = 0; i < 36; i++) {
            long finds = 0;
            for (int k = 0; k < 3; k++) {
                finds |= 1L << (7 * i + 11 * k) % 40;
            }
            x.ground(i % 12, finds, i % 3 == 0 ? 1 << (i + 1) % 12 : 0);
        }
        return x;
    }

    private static List<Method> methods() {
        List<Method> all = new ArrayList<>();
        for (Method m : AxesAtDawn.class.getDeclaredMethods()) {
            if (Modifier.isPublic(m.getModifiers())) {
                all.add(m);
            }
        }
        all.sort(Comparator.comparing(Method::getName));
        return all;
    }

    private static Object[] arguments(Method m, Random chance) {
        Class<?>[] types = m.getParameterTypes();
        Object[] args = new Object[types.length];
        boolean small = chance.nextBoolean();
        for (int i = 0; i < args.length; i++) {
            int v = small ? chance.nextInt(9) : EDGES[chance.nextInt(EDGES.length)];
            if (types[i] == boolean.class) {
                args[i] = chance.nextInt(4) == 0;
            } else if (types[i] == long.class) {
                args[i] = chance.nextBoolean() ? chance.nextLong() : v;
                args[i] = ((Number) args[i]).longValue();
            } else {
                args[i] = v;
            }
        }
        return args;
    }

    private static void wild(AxesAtDawn x, Random chance, int calls) throws IllegalAccessException {
        List<Method> methods = methods();
        for (int i = 0; i < calls; i++) {
            Method m = methods.get(chance.nextInt(methods.size()));
            Object[] args = arguments(m, chance);
            try {
                m.invoke(x, args);
            } catch (InvocationTargetException e) {
                boolean may = m.getName().equals("fact") || m.getName().equals("parted");
                due(may && e.getCause().getClass() == NoSuchElementException.class,
                        m.getName() + java.util.Arrays.toString(args) + " throws " + e.getCause());
            }
        }
    }

    private static int dearest(AxesAtDawn x) {
        int sum = 0;
        for (int turn = 0; turn < 20; turn++) {
            x.way(0, 1, turn);
            sum += x.where(1, 1) + x.where(2, 1) + x.rules(1) + x.enough() + x.stories(0) + x.settled();
            for (int claim = 0; claim < 12; claim++) {
                sum += x.cut(claim, 0);
            }
            sum += x.rates(20, 0) + x.parted(20, 0) + x.found(turn, turn, 5);
        }
        return sum;
    }

    public static void main(String[] args) throws IllegalAccessException {
        Random chance = new Random(7);
        for (int run = 0; run < 300; run++) {
            wild(new AxesAtDawn(), chance, 512);
            if (run % 10 == 0) {
                wild(full(), chance, 300);
            }
        }
        AxesAtDawn x = full();
        due(x.count(0) == 40 && x.count(1) == 80 && x.count(4) == 36, "a full object");
        long before = System.nanoTime();
        dearest(x);
        long took = System.nanoTime() - before;
        due(took < 20_000_000_000L, "the dearest calls end soon, but took " + took + " ns");
        com.sun.management.ThreadMXBean room = (com.sun.management.ThreadMXBean) ManagementFactory.getThreadMXBean();
        long bytes = room.getCurrentThreadAllocatedBytes();
        dearest(x);
        bytes = room.getCurrentThreadAllocatedBytes() - bytes;
        due(bytes < 10_000, "calls make next to nothing, but made " + bytes + " bytes");
        bytes = room.getCurrentThreadAllocatedBytes();
        new AxesAtDawn();
        bytes = room.getCurrentThreadAllocatedBytes() - bytes;
        due(bytes < 60_000, "an object is small, but has " + bytes + " bytes");
        System.out.println(wrong == 0 ? "nothing wild came back" : wrong + " things are not as due");
        if (wrong != 0) {
            System.exit(1);
        }
    }
}
