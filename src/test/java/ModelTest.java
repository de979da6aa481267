import java.lang.reflect.Method;
import java.util.HashMap;
import java.util.Map;
import java.util.Random;

/** Runs of random calls, on the program and on the Model, each answer held against the other. */
final class ModelTest {
    private static final String[] MAKERS = {"grid", "plane", "filled", "majority", "wheel", "tree", "within", "base"};
    private static final String[] SETS = {"quorum", "meeting", "apart", "load", "stops", "needless", "sizes", "fair"};
    private static final String[] DEAR = {"weakest", "chance", "chanceOf", "pivotal", "better"};
    private static final String[] ACTS = {"ask", "ask", "ask", "leave", "bring", "bring", "bring", "bring", "bring",
        "bring", "bring", "bring", "bring", "bring", "withdraw", "breakDown", "mend", "delay", "goOn"};
    private static final String[] TELLS = {"node", "arbiter", "waiting", "way", "is", "is", "handled", "sent", "book",
        "waitsFor", "unheard", "crowded", "trace", "mean", "byRoot", "quorum"};
    private static final String[] TRIALS = {"entersBy", "searched", "searchedBy", "soonest", "timed", "crowd"};

    private static final Map<String, Method> OF_PROGRAM = new HashMap<>();
    private static final Map<String, Method> OF_MODEL = new HashMap<>();

    private ModelTest() {
    }

    public static void main(String[] args) throws Exception {
        for (Method m : QuorumGate.class.getDeclaredMethods()) {
            if (java.lang.reflect.Modifier.isPublic(m.getModifiers())) {
                OF_PROGRAM.put(m.getName(), m);
            }
        }
        for (String name : OF_PROGRAM.keySet()) {
            Method m = Model.class.getDeclaredMethod(name, OF_PROGRAM.get(name).getParameterTypes());
            m.setAccessible(true);
            OF_MODEL.put(name, m);
        }
        int runs = args.length > 0 ? Integer.parseInt(args[0]) : 120;
        int first = args.length > 1 ? Integer.parseInt(args[1]) : 1;
        for (int seed = first; seed < first + runs && !Check.failed(); seed++) {
            run(seed);
            longByClock(seed);
        }
        Check.end("ModelTest");
    }

    private static void run(int seed) throws Exception {
        Random r = new Random(seed);
        QuorumGate x = new QuorumGate();
        Model y = new Model();
        StringBuilder told = new StringBuilder();
        int remake = 1 + r.nextInt(4) * 2;
        boolean lively = r.nextBoolean();
        for (int i = 0; i < 512 && !Check.failed(); i++) {
            String name = pick(r, i, remake, lively, y);
            Object[] with = arguments(r, name, y);
            StringBuilder call = new StringBuilder(name).append('(');
            for (Object o : with) {
                call.append(call.charAt(call.length() - 1) == '(' ? "" : ", ").append(o);
            }
            call.append(')');
            told.append(call).append('\n');
            long want = number(OF_MODEL.get(name).invoke(y, with));
            long got = number(OF_PROGRAM.get(name).invoke(x, with));
            Check.due("run " + seed + ", call " + i + ": " + call, got, want);
            if (Check.failed()) {
                System.out.println(told);
            }
            compareAll(seed, i, x, y, r);
        }
    }

    /** Many that ask one behind the other, so that the clock comes near TIME 300 or isn't over by then. */
    private static void longByClock(int seed) {
        Random r = new Random(seed);
        QuorumGate x = new QuorumGate();
        Model y = new Model();
        int n = 12 + r.nextInt(5);
        boolean filled = r.nextBoolean();
        Check.due("nodes", filled ? x.filled(n) : x.majority(n), filled ? y.filled(n) : y.majority(n));
        for (int i = r.nextInt(20); i > 0; i--) {
            int from = r.nextInt(n);
            int to = r.nextInt(n);
            int way = 1 + r.nextInt(9);
            Check.due("delay", x.delay(from, to, way), y.delay(from, to, way));
        }
        for (int v = 0; v < n; v++) {
            Check.due("ask", x.ask(v), y.ask(v));
        }
        int moves = r.nextInt(3) * r.nextInt(40);
        Check.due("goOn", x.goOn(seed, moves), y.goOn(seed, moves));
        for (int hold = 15; hold <= 20; hold++) {
            int node = r.nextInt(n);
            for (int what = 0; what < 5; what++) {
                Check.due("long run " + seed + ": timed(" + hold + ", " + node + ", " + what + ")",
                    x.timed(hold, node, what), y.timed(hold, node, what));
            }
        }
    }

    /** Now and then every cheap thing that can be told. */
    private static void compareAll(int seed, int i, QuorumGate x, Model y, Random r) {
        if (r.nextInt(12) != 0) {
            return;
        }
        String at = "run " + seed + ", behind call " + i + ": ";
        int n = y.is(0);
        for (int what = -1; what <= 13; what++) {
            Check.due(at + "is " + what, x.is(what), y.is(what));
        }
        for (int v = 0; v < n; v++) {
            for (int what = -1; what <= 8; what++) {
                Check.due(at + "node " + v + ", " + what, x.node(v, what), y.node(v, what));
            }
            for (int what = 0; what < 4; what++) {
                Check.due(at + "arbiter " + v + ", " + what, x.arbiter(v, what), y.arbiter(v, what));
            }
            for (int k = 0; k <= y.arbiter(v, 3); k++) {
                Check.due(at + "waiting", x.waiting(v, k, 0), y.waiting(v, k, 0));
                Check.due(at + "waiting", x.waiting(v, k, 1), y.waiting(v, k, 1));
            }
            Check.due(at + "quorum " + v, x.quorum(v, 1), y.quorum(v, 1));
            Check.due(at + "in use " + v, x.quorum(v, 2), y.quorum(v, 2));
            for (int u = 0; u < n; u++) {
                for (int k = -1; k <= y.way(u, v, -1); k++) {
                    Check.due(at + "way " + u + ", " + v, x.way(u, v, k), y.way(u, v, k));
                }
            }
        }
        for (int ago = -1; ago <= 40; ago++) {
            for (int what = 0; what < 4; what++) {
                Check.due(at + "book " + ago, x.book(ago, what), y.book(ago, what));
                Check.due(at + "trace " + ago, x.trace(ago, what), y.trace(ago, what));
            }
        }
    }

    private static long number(Object o) {
        return o instanceof Boolean ? ((Boolean) o ? 1 : 0) : ((Number) o).longValue();
    }

    private static String any(Random r, String[] of) {
        return of[r.nextInt(of.length)];
    }

    private static String pick(Random r, int i, int remake, boolean lively, Model y) {
        if (i == 0 || r.nextInt(120 / remake) == 0 && !(lively && y.is(1) > 0 && r.nextInt(5) > 0)) {
            return any(r, MAKERS);
        }
        int k = r.nextInt(100);
        if (k < 62) {
            return any(r, ACTS);
        }
        if (k < 72) {
            return any(r, SETS);
        }
        if (k < 74) {
            return y.is(0) <= 8 || r.nextInt(40) == 0 ? any(r, DEAR) : any(r, SETS);
        }
        if (k < 77) {
            return any(r, TRIALS);
        }
        return any(r, TELLS);
    }

    private static Object[] arguments(Random r, String name, Model y) {
        int n = y.is(0);
        if (name.equals("bring") && r.nextInt(12) > 0 && y.is(1) > 0) {
            int from = r.nextInt(n);
            int to = r.nextInt(n);
            for (int i = 0; i < n * n && y.way(from, to, -1) == 0; i++) {
                to = to + 1 < n ? to + 1 : 0;
                from = to == 0 ? (from + 1) % n : from;
            }
            return new Object[] {from, to};
        }
        if (name.equals("base") && r.nextInt(3) > 0) {
            int set = 1 + r.nextInt((1 << n) - 1);
            return new Object[] {r.nextInt(n), r.nextInt(3) > 0 ? set & -set : set};
        }
        if (name.equals("goOn")) {
            return new Object[] {r.nextInt(20) - 1, r.nextInt(8) == 0 ? r.nextInt(505) : r.nextInt(30) - 1};
        }
        if (name.equals("crowd")) {
            return new Object[] {r.nextInt(1000) - 20, r.nextInt(4) == 0 ? r.nextInt(503) : r.nextInt(100), what(r, 6)};
        }
        if (name.equals("entersBy")) {
            return new Object[] {node(r, n), r.nextInt(100) - 2};
        }
        if (name.startsWith("searched")) {
            int states = r.nextInt(3) == 0 ? r.nextInt(43) : 35 + r.nextInt(7);
            int askers = r.nextInt(1 << n) & r.nextInt(1 << n) & (r.nextInt(9) == 0 ? -1 : r.nextInt(1 << n));
            return name.equals("searched") ? new Object[] {states, what(r, 6)}
                : new Object[] {r.nextInt(12) == 0 ? askers - 3 : askers, states, what(r, 6)};
        }
        if (name.equals("soonest")) {
            return new Object[] {node(r, n), r.nextInt(43)};
        }
        if (name.equals("timed")) {
            return new Object[] {r.nextInt(3) == 0 ? 18 + r.nextInt(4) : r.nextInt(22), node(r, n), what(r, 5)};
        }
        if (name.equals("delay")) {
            return new Object[] {node(r, n), node(r, n), r.nextInt(11)};
        }
        if (name.equals("stops")) {
            return new Object[] {r.nextInt(10) == 0 ? r.nextInt() : r.nextInt(1 << n)};
        }
        if (name.equals("book") || name.equals("trace")) {
            return new Object[] {r.nextInt(45) - 2, what(r, 4)};
        }
        if (name.equals("chanceOf")) {
            return new Object[] {node(r, n), r.nextInt(13) - 1};
        }
        if (name.equals("sent") || name.equals("chance") || name.equals("is")) {
            return new Object[] {r.nextInt(15) - 1};
        }
        if (name.equals("way")) {
            return new Object[] {node(r, n), node(r, n), r.nextInt(5) - 2};
        }
        if (name.equals("waiting")) {
            return new Object[] {node(r, n), r.nextInt(6) - 1, what(r, 2)};
        }
        if (name.equals("within")) {
            return new Object[] {node(r, n), r.nextInt(10)};
        }
        if (name.equals("filled") || name.equals("majority") || name.equals("wheel")) {
            return new Object[] {r.nextInt(3) == 0 ? r.nextInt(19) : 2 + r.nextInt(9)};
        }
        if (name.equals("grid") || name.equals("plane") || name.equals("tree")) {
            return new Object[] {r.nextInt(6)};
        }
        int many = OF_PROGRAM.get(name).getParameterCount();
        Object[] with = new Object[many];
        for (int i = 0; i < many; i++) {
            boolean ofNode = i == 0 && r.nextInt(10) > 0 || name.equals("meeting");
            with[i] = ofNode ? node(r, n) : r.nextInt(19) - 1;
        }
        return with;
    }

    private static int node(Random r, int n) {
        return r.nextInt(15) == 0 ? r.nextInt(n + 4) - 2 : r.nextInt(n);
    }

    private static int what(Random r, int most) {
        return r.nextInt(12) == 0 ? r.nextInt(most + 3) - 1 : r.nextInt(most);
    }
}
