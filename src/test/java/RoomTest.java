import java.lang.management.ManagementFactory;
import java.lang.reflect.InvocationTargetException;
import java.lang.reflect.Method;
import java.lang.reflect.Modifier;
import java.util.ArrayList;
import java.util.List;
import java.util.Random;
import java.util.Set;

/** That the dearest runs stay small, as nothing that they make is ever taken back, and that nothing is ever thrown. */
final class RoomTest {
    // 7.3 million fields and elements, of at most 8 bytes each; a fourth of that is far enough.
    private static final long ROOM = 7_300_000L * 8 / 4;
    private static final int[] FAR = {Integer.MIN_VALUE, -65536, -17, -2, -1, 0, 1, 2, 3, 4, 5, 6, 7, 8, 9, 15, 16, 17,
        20, 39, 40, 41, 255, 500, 501, 65535, 65536, 1 << 30, Integer.MAX_VALUE};

    private static final Set<String> MAKERS =
        Set.of("grid", "plane", "filled", "majority", "wheel", "tree", "within", "base");

    private static final com.sun.management.ThreadMXBean THREADS =
        (com.sun.management.ThreadMXBean) ManagementFactory.getThreadMXBean();

    private RoomTest() {
    }

    private static long made() {
        return THREADS.getCurrentThreadAllocatedBytes();
    }

    public static void main(String[] args) throws Exception {
        newObjects();
        crowds();
        longLanes();
        manyBases();
        for (int seed = 0; seed < 200; seed++) {
            anyCalls(seed, 512);
        }
        anyCalls(7, 20000);
        Check.end("RoomTest");
    }

    private static void newObjects() {
        new QuorumGate();
        long before = made();
        for (int i = 0; i < 10; i++) {
            new QuorumGate();
        }
        Check.isTrue("ten new objects: " + (made() - before), made() - before < 600_000);
    }

    private static void crowds() {
        QuorumGate x = new QuorumGate();
        x.majority(16);
        long before = made();
        for (int i = 0; i < 500; i++) {
            x.crowd(i, 500, 0);
        }
        Check.isTrue("crowds: " + (made() - before), made() - before < 100_000);
    }

    /** As many letters on the way as asking and withdrawing can bring, searched. */
    private static void longLanes() {
        QuorumGate x = new QuorumGate();
        x.majority(16);
        for (int v = 0; v < 16; v++) {
            x.base(v, 65535);
        }
        long before = made();
        for (int i = 0; i < 200; i++) {
            x.ask(i % 16);
            x.withdraw(i % 16);
        }
        Check.due("letters", x.is(1), 6400);
        for (int i = 0; i < 40; i++) {
            x.searchedBy(65535, 40, 0);
            x.timed(20, 0, 0);
        }
        Check.isTrue("long lanes: " + (made() - before), made() - before < ROOM);
    }

    private static void manyBases() {
        QuorumGate x = new QuorumGate();
        x.tree(4);
        long before = made();
        for (int i = 0; i < 170; i++) {
            x.base(i % 15, 1 + i * 191 % 32767);
            x.weakest(1);
            x.pivotal(3);
        }
        Check.isTrue("many bases: " + (made() - before), made() - before < 100_000);
    }

    private static void anyCalls(int seed, int calls) throws Exception {
        Random r = new Random(seed);
        List<Method> face = new ArrayList<>();
        for (Method m : QuorumGate.class.getDeclaredMethods()) {
            if (Modifier.isPublic(m.getModifiers())) {
                face.add(m);
            }
        }
        face.sort((a, b) -> a.getName().compareTo(b.getName()));
        QuorumGate x = new QuorumGate();
        for (int i = 0; i < calls; i++) {
            Method m = face.get(r.nextInt(face.size()));
            if (MAKERS.contains(m.getName()) && r.nextInt(8) > 0) {
                continue;
            }
            Object[] with = new Object[m.getParameterCount()];
            for (int k = 0; k < with.length; k++) {
                with[k] = r.nextInt(3) > 0 ? r.nextInt(x.is(0) + 1) : FAR[r.nextInt(FAR.length)];
            }
            try {
                m.invoke(x, with);
            } catch (InvocationTargetException e) {
                Check.isTrue("run " + seed + ", " + m + " threw " + e.getCause(), false);
            }
        }
        Check.isTrue("run " + seed + " came to its end", x.is(0) >= 2 && x.is(0) <= 16);
    }
}
