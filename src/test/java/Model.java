import java.math.BigInteger;
import java.util.ArrayList;
import java.util.Comparator;
import java.util.HashSet;
import java.util.List;
import java.util.Set;
import java.util.TreeSet;

/**
 * The document read once more, as slowly and plainly as can be, with the Java library: what ModelTest holds the
 * program against. It shares no line and no way of keeping things with the program.
 */
final class Model {
    static final class Letter {
        final int kind;
        final int from;
        final int to;
        final int stamp;
        int went;
        int due;

        Letter(int kind, int from, int to, int stamp, int went) {
            this.kind = kind;
            this.from = from;
            this.to = to;
            this.stamp = stamp;
            this.went = went;
        }
    }

    static final class Node {
        int how;
        int clock;
        int stamp;
        TreeSet<Integer> inUse = new TreeSet<>();
        TreeSet<Integer> votes = new TreeSet<>();
        TreeSet<Integer> doubts = new TreeSet<>();
        TreeSet<Integer> fails = new TreeSet<>();
        boolean broken;
        int[] granted;
        boolean inquired;
        List<int[]> waiting = new ArrayList<>();
        int times;
        int handled;
        int bringingsAtAsk;
        int lettersSince;
        int cameAt;

        Node copy() {
            Node c = new Node();
            c.how = how;
            c.clock = clock;
            c.stamp = stamp;
            c.inUse.addAll(inUse);
            c.votes.addAll(votes);
            c.doubts.addAll(doubts);
            c.fails.addAll(fails);
            c.broken = broken;
            c.granted = granted;
            c.inquired = inquired;
            c.waiting.addAll(waiting);
            c.times = times;
            c.handled = handled;
            c.bringingsAtAsk = bringingsAtAsk;
            c.lettersSince = lettersSince;
            c.cameAt = cameAt;
            return c;
        }

        void none() {
            inUse.clear();
            votes.clear();
            doubts.clear();
            fails.clear();
        }
    }

    private static final Comparator<int[]> AHEAD = (a, b) -> a[1] != b[1] ? Integer.compare(a[1], b[1])
            : Integer.compare(a[0], b[0]);

    List<TreeSet<Integer>> bases = new ArrayList<>();
    boolean isTree;
    List<Node> nodes = new ArrayList<>();
    List<Letter> letters = new ArrayList<>();
    int[] sentOf = new int[6];
    int bringings;
    int entries;
    int together;
    int mostLetters;
    int mostWaited;
    int overtook;
    List<int[]> bookRows = new ArrayList<>();
    List<int[]> traceRows = new ArrayList<>();
    int[][] ways;
    int time;
    int lastEntryTime;
    long g;

    Model() {
        grid(2);
    }

    private Model(Model o) {
        bases = o.bases;
        isTree = o.isTree;
        for (Node v : o.nodes) {
            nodes.add(v.copy());
        }
        letters.addAll(o.letters);
        sentOf = o.sentOf.clone();
        bringings = o.bringings;
        entries = o.entries;
        together = o.together;
        mostLetters = o.mostLetters;
        mostWaited = o.mostWaited;
        overtook = o.overtook;
        bookRows.addAll(o.bookRows);
        traceRows.addAll(o.traceRows);
        ways = o.ways;
    }

    private int anew(List<TreeSet<Integer>> made, boolean tree) {
        bases = made;
        isTree = tree;
        int n = made.size();
        nodes = new ArrayList<>();
        for (int i = 0; i < n; i++) {
            nodes.add(new Node());
        }
        letters = new ArrayList<>();
        sentOf = new int[6];
        bringings = entries = together = mostLetters = mostWaited = overtook = 0;
        bookRows = new ArrayList<>();
        traceRows = new ArrayList<>();
        ways = new int[n][n];
        for (int[] row : ways) {
            java.util.Arrays.fill(row, 1);
        }
        return n;
    }

    private static List<TreeSet<Integer>> empty(int n) {
        List<TreeSet<Integer>> l = new ArrayList<>();
        for (int i = 0; i < n; i++) {
            l.add(new TreeSet<>());
        }
        return l;
    }

    private static int bits(Iterable<Integer> set) {
        int b = 0;
        for (int v : set) {
            b |= 1 << v;
        }
        return b;
    }

    private static TreeSet<Integer> setOf(int bits) {
        TreeSet<Integer> s = new TreeSet<>();
        for (int v = 0; v < 16; v++) {
            if ((bits >> v & 1) == 1) {
                s.add(v);
            }
        }
        return s;
    }

    private int n() {
        return nodes.size();
    }

    private boolean isNode(int v) {
        return v >= 0 && v < n();
    }

    int grid(int k) {
        if (k < 2 || k > 4) {
            return -1;
        }
        List<TreeSet<Integer>> l = empty(k * k);
        for (int a = 0; a < k * k; a++) {
            for (int b = 0; b < k * k; b++) {
                if (a / k == b / k || a % k == b % k) {
                    l.get(a).add(b);
                }
            }
        }
        return anew(l, false);
    }

    int plane(int q) {
        if (q != 2 && q != 3) {
            return -1;
        }
        int n = q == 2 ? 7 : 13;
        int[] on = q == 2 ? new int[] {0, 1, 3} : new int[] {0, 1, 3, 9};
        List<TreeSet<Integer>> l = empty(n);
        for (int v = 0; v < n; v++) {
            for (int o : on) {
                l.get(v).add((v + o) % n);
            }
        }
        return anew(l, false);
    }

    int filled(int n) {
        if (n < 2 || n > 16) {
            return -1;
        }
        int k = (int) Math.ceil(Math.sqrt(n));
        List<TreeSet<Integer>> l = empty(n);
        for (int a = 0; a < n; a++) {
            for (int b = 0; b < k * k; b++) {
                if (a / k == b / k || a % k == b % k) {
                    l.get(a).add(b >= n ? b % n : b);
                }
            }
        }
        return anew(l, false);
    }

    private static TreeSet<Integer> around(int v, int n) {
        TreeSet<Integer> s = new TreeSet<>();
        s.add(v);
        for (int i = 1; i <= n / 2; i++) {
            s.add((v + i) % n);
        }
        return s;
    }

    int majority(int n) {
        if (n < 2 || n > 16) {
            return -1;
        }
        List<TreeSet<Integer>> l = empty(n);
        for (int v = 0; v < n; v++) {
            l.get(v).addAll(around(v, n));
        }
        return anew(l, false);
    }

    int wheel(int n) {
        if (n < 3 || n > 16) {
            return -1;
        }
        List<TreeSet<Integer>> l = empty(n);
        for (int v = 1; v < n; v++) {
            l.get(0).add(v);
            l.get(v).add(0);
            l.get(v).add(v);
        }
        return anew(l, false);
    }

    int tree(int h) {
        if (h < 2 || h > 4) {
            return -1;
        }
        int n = new int[] {0, 0, 3, 7, 15}[h];
        List<TreeSet<Integer>> l = empty(n);
        for (int v = 0; v < n; v++) {
            int u = v;
            while (true) {
                l.get(v).add(u);
                if (u == 0) {
                    break;
                }
                u = (u - 1) / 2;
            }
            u = v;
            while (2 * u + 1 < n) {
                u = 2 * u + 1;
                l.get(v).add(u);
            }
        }
        return anew(l, true);
    }

    int within(int node, int m) {
        if (!isNode(node) || m < 2 || m > 8 || n() - 1 + m > 16) {
            return -1;
        }
        int n = n();
        List<TreeSet<Integer>> l = new ArrayList<>();
        for (int old = 0; old < n; old++) {
            if (old != node) {
                l.add(inPlace(bases.get(old), node, old % m, m, n));
            }
        }
        for (int j = 0; j < m; j++) {
            l.add(inPlace(bases.get(node), node, j, m, n));
        }
        return anew(l, false);
    }

    private static TreeSet<Integer> inPlace(Set<Integer> base, int node, int which, int m, int n) {
        TreeSet<Integer> s = new TreeSet<>();
        for (int u : base) {
            if (u == node) {
                for (int w : around(which, m)) {
                    s.add(n - 1 + w);
                }
            } else {
                s.add(u > node ? u - 1 : u);
            }
        }
        return s;
    }

    int base(int node, int set) {
        if (!isNode(node) || set < 1 || set >= 1 << n()) {
            return -1;
        }
        List<TreeSet<Integer>> l = new ArrayList<>(bases);
        l.set(node, setOf(set));
        anew(l, false);
        return apart();
    }

    private TreeSet<Integer> brokenNow() {
        TreeSet<Integer> s = new TreeSet<>();
        for (int v = 0; v < n(); v++) {
            if (nodes.get(v).broken) {
                s.add(v);
            }
        }
        return s;
    }

    private boolean meets(Set<Integer> a, Set<Integer> b) {
        for (int v : a) {
            if (b.contains(v)) {
                return true;
            }
        }
        return false;
    }

    private TreeSet<Integer> whole(int v, Set<Integer> broken) {
        boolean leaf = 2 * v + 1 >= n();
        TreeSet<Integer> s = new TreeSet<>();
        if (leaf) {
            if (broken.contains(v)) {
                return null;
            }
            s.add(v);
            return s;
        }
        TreeSet<Integer> a = whole(2 * v + 1, broken);
        TreeSet<Integer> b = whole(2 * v + 2, broken);
        if (broken.contains(v)) {
            if (a == null || b == null) {
                return null;
            }
            s.addAll(a);
            s.addAll(b);
            return s;
        }
        TreeSet<Integer> one = a != null ? a : b;
        if (one == null) {
            return null;
        }
        s.add(v);
        s.addAll(one);
        return s;
    }

    private TreeSet<Integer> quorumOf(int v, Set<Integer> broken) {
        if (!meets(bases.get(v), broken)) {
            return bases.get(v);
        }
        if (isTree) {
            return whole(0, broken);
        }
        for (TreeSet<Integer> b : bases) {
            if (!meets(b, broken)) {
                return b;
            }
        }
        return null;
    }

    int quorum(int node, int what) {
        if (!isNode(node) || what < 0 || what > 2) {
            return -1;
        }
        if (what == 0) {
            return bits(bases.get(node));
        }
        if (what == 1) {
            TreeSet<Integer> q = quorumOf(node, brokenNow());
            return q == null ? 0 : bits(q);
        }
        return bits(nodes.get(node).inUse);
    }

    int meeting(int a, int b) {
        if (!isNode(a) || !isNode(b)) {
            return -1;
        }
        for (int v = 0; v < n(); v++) {
            if (bases.get(a).contains(v) && bases.get(b).contains(v)) {
                return v;
            }
        }
        return -1;
    }

    int apart() {
        int c = 0;
        for (int a = 0; a < n(); a++) {
            for (int b = 0; b < a; b++) {
                if (!meets(bases.get(a), bases.get(b))) {
                    c++;
                }
            }
        }
        return c;
    }

    int load(int node) {
        if (!isNode(node)) {
            return -1;
        }
        int c = 0;
        for (TreeSet<Integer> b : bases) {
            c += b.contains(node) ? 1 : 0;
        }
        return c;
    }

    private boolean somebody(int brokenBits) {
        TreeSet<Integer> broken = setOf(brokenBits);
        for (int v = 0; v < n(); v++) {
            if (quorumOf(v, broken) != null) {
                return true;
            }
        }
        return false;
    }

    boolean stops(int set) {
        return !somebody(set & (1 << n()) - 1);
    }

    int weakest(int what) {
        if (what != 0 && what != 1) {
            return -1;
        }
        for (int size = 0; size <= n(); size++) {
            for (int set = 0; set < 1 << n(); set++) {
                if (Integer.bitCount(set) == size && stops(set)) {
                    return what == 0 ? size : set;
                }
            }
        }
        return -1;
    }

    int needless() {
        int c = 0;
        for (int a = 0; a < n(); a++) {
            boolean found = false;
            for (int b = 0; b < n(); b++) {
                if (a == b) {
                    continue;
                }
                if (bases.get(a).equals(bases.get(b))) {
                    found |= b < a;
                } else {
                    found |= bases.get(a).containsAll(bases.get(b));
                }
            }
            c += found ? 1 : 0;
        }
        return c;
    }

    private int chanceThat(int mustLive, int odds) {
        BigInteger sum = BigInteger.ZERO;
        int n = n();
        for (int broken = 0; broken < 1 << n; broken++) {
            if (mustLive >= 0 && (broken >> mustLive & 1) == 1) {
                continue;
            }
            boolean some = mustLive >= 0 ? quorumOf(mustLive, setOf(broken)) != null : somebody(broken);
            if (some) {
                int k = Integer.bitCount(broken);
                sum = sum.add(BigInteger.valueOf(odds).pow(k).multiply(BigInteger.valueOf(10 - odds).pow(n - k)));
            }
        }
        return sum.multiply(BigInteger.valueOf(1000000)).divide(BigInteger.TEN.pow(n)).intValueExact();
    }

    int chance(int odds) {
        return odds < 0 || odds > 10 ? -1 : chanceThat(-1, odds);
    }

    int chanceOf(int node, int odds) {
        return !isNode(node) || odds < 0 || odds > 10 ? -1 : chanceThat(node, odds);
    }

    int sizes(int what) {
        TreeSet<Integer> all = new TreeSet<>();
        TreeSet<Integer> common = setOf((1 << n()) - 1);
        for (TreeSet<Integer> b : bases) {
            all.add(b.size());
            common.retainAll(b);
        }
        return what == 0 ? all.first() : what == 1 ? all.last() : what == 2 ? common.size() : -1;
    }

    private boolean live(int set) {
        for (TreeSet<Integer> b : bases) {
            if ((bits(b) & set) == bits(b)) {
                return true;
            }
        }
        return false;
    }

    int pivotal(int node) {
        if (!isNode(node)) {
            return -1;
        }
        int c = 0;
        for (int set = 0; set < 1 << n(); set++) {
            if ((set >> node & 1) == 0 && !live(set) && live(set | 1 << node)) {
                c++;
            }
        }
        return c;
    }

    boolean fair() {
        TreeSet<Integer> loads = new TreeSet<>();
        for (int v = 0; v < n(); v++) {
            loads.add(load(v));
        }
        return loads.size() == 1 && sizes(0) == sizes(1);
    }

    int better() {
        for (int set = 0; set < 1 << n(); set++) {
            boolean all = !live(set);
            for (TreeSet<Integer> b : bases) {
                all &= (bits(b) & set) != 0;
            }
            if (all) {
                return set;
            }
        }
        return -1;
    }

    private void send(int kind, int from, int to, int stamp) {
        letters.add(new Letter(kind, from, to, stamp, time));
        sentOf[kind]++;
    }

    private boolean canAsk(int v) {
        Node a = nodes.get(v);
        return a.how == 0 && !a.broken && quorumOf(v, brokenNow()) != null;
    }

    private void doAsk(int v) {
        Node a = nodes.get(v);
        a.clock++;
        a.stamp = a.clock;
        a.how = 1;
        a.none();
        a.inUse.addAll(quorumOf(v, brokenNow()));
        a.bringingsAtAsk = bringings;
        a.lettersSince = 0;
        for (int u : a.inUse) {
            send(0, v, u, a.stamp);
        }
    }

    int ask(int v) {
        if (!isNode(v) || !canAsk(v)) {
            return -1;
        }
        doAsk(v);
        return nodes.get(v).stamp;
    }

    private void release(int v) {
        Node a = nodes.get(v);
        for (int u : a.inUse) {
            send(5, v, u, a.stamp);
        }
        a.how = 0;
        a.none();
    }

    boolean leave(int v) {
        if (!isNode(v) || nodes.get(v).how != 2) {
            return false;
        }
        release(v);
        return true;
    }

    boolean withdraw(int v) {
        if (!isNode(v) || nodes.get(v).how != 1) {
            return false;
        }
        release(v);
        return true;
    }

    private Letter firstFromTo(int from, int to) {
        for (Letter l : letters) {
            if (l.from == from && l.to == to) {
                return l;
            }
        }
        return null;
    }

    private void grantTheFirst(int arbiter) {
        Node r = nodes.get(arbiter);
        if (!r.waiting.isEmpty()) {
            r.granted = r.waiting.remove(0);
            r.inquired = false;
            send(1, arbiter, r.granted[0], r.granted[1]);
        }
    }

    int bring(int from, int to) {
        if (!isNode(from) || !isNode(to)) {
            return -1;
        }
        Letter l = firstFromTo(from, to);
        if (l == null) {
            return -1;
        }
        deliver(l);
        return l.kind;
    }

    private void deliver(Letter l) {
        letters.remove(l);
        bringings++;
        Node to = nodes.get(l.to);
        to.handled++;
        for (int v = 0; v < n(); v++) {
            if (l.from == v || l.to == v) {
                nodes.get(v).lettersSince++;
            }
        }
        traceRows.add(0, new int[] {l.kind, l.from, l.to, l.stamp});
        to.clock = Math.max(to.clock, l.stamp);
        boolean asksByIt = to.how == 1 && to.stamp == l.stamp;
        boolean grantedByIt = to.granted != null && to.granted[0] == l.from && to.granted[1] == l.stamp;
        if (l.kind == 0) {
            request(l, to);
        } else if (l.kind == 1 && asksByIt) {
            to.votes.add(l.from);
            to.doubts.remove(l.from);
            to.fails.remove(l.from);
            if (to.votes.equals(to.inUse)) {
                comesIn(l.to);
            }
        } else if (l.kind == 2 && asksByIt) {
            to.fails.add(l.from);
            for (int u : new TreeSet<>(to.doubts)) {
                send(4, l.to, u, to.stamp);
                to.votes.remove(u);
                to.fails.add(u);
            }
            to.doubts.clear();
        } else if (l.kind == 3 && asksByIt && to.votes.contains(l.from)) {
            if (to.fails.isEmpty()) {
                to.doubts.add(l.from);
            } else {
                send(4, l.to, l.from, to.stamp);
                to.votes.remove(l.from);
                to.fails.add(l.from);
            }
        } else if (l.kind == 4 && grantedByIt) {
            to.waiting.add(to.granted);
            to.waiting.sort(AHEAD);
            grantTheFirst(l.to);
        } else if (l.kind == 5) {
            if (grantedByIt) {
                to.granted = null;
                to.inquired = false;
                grantTheFirst(l.to);
            } else {
                to.waiting.removeIf(w -> w[0] == l.from && w[1] == l.stamp);
            }
        }
    }

    private void request(Letter l, Node to) {
        int[] him = {l.from, l.stamp};
        int[] formerFirst = to.waiting.isEmpty() ? null : to.waiting.get(0);
        to.waiting.add(him);
        to.waiting.sort(AHEAD);
        if (to.granted == null) {
            grantTheFirst(l.to);
        } else if (to.waiting.get(0) == him && AHEAD.compare(him, to.granted) < 0) {
            if (formerFirst != null && AHEAD.compare(formerFirst, to.granted) < 0) {
                send(2, l.to, formerFirst[0], formerFirst[1]);
            }
            if (!to.inquired) {
                send(3, l.to, to.granted[0], to.granted[1]);
                to.inquired = true;
            }
        } else {
            send(2, l.to, l.from, l.stamp);
        }
    }

    private int count(int how) {
        int c = 0;
        for (Node v : nodes) {
            c += v.how == how ? 1 : 0;
        }
        return c;
    }

    private void comesIn(int v) {
        Node a = nodes.get(v);
        a.how = 2;
        a.doubts.clear();
        a.times++;
        a.cameAt = time;
        lastEntryTime = time;
        entries++;
        if (count(2) > 1) {
            together++;
        }
        boolean over = false;
        for (int u = 0; u < n(); u++) {
            Node b = nodes.get(u);
            over |= b.how == 1 && AHEAD.compare(new int[] {u, b.stamp}, new int[] {v, a.stamp}) < 0;
        }
        overtook += over ? 1 : 0;
        int waited = bringings - a.bringingsAtAsk;
        mostWaited = Math.max(mostWaited, waited);
        mostLetters = Math.max(mostLetters, a.lettersSince);
        bookRows.add(0, new int[] {v, a.stamp, waited, a.lettersSince});
    }

    boolean breakDown(int x) {
        if (!isNode(x) || nodes.get(x).how != 0 || nodes.get(x).broken) {
            return false;
        }
        Node b = nodes.get(x);
        b.broken = true;
        letters.removeIf(l -> l.from == x || l.to == x);
        b.granted = null;
        b.inquired = false;
        b.waiting.clear();
        for (int u = 0; u < n(); u++) {
            Node r = nodes.get(u);
            if (u == x) {
                continue;
            }
            if (r.granted != null && r.granted[0] == x) {
                r.granted = null;
                r.inquired = false;
                grantTheFirst(u);
            } else {
                r.waiting.removeIf(w -> w[0] == x);
            }
        }
        for (int u = 0; u < n(); u++) {
            Node a = nodes.get(u);
            if (u == x || !a.inUse.contains(x)) {
                continue;
            }
            if (a.how == 2) {
                a.inUse.remove(x);
            } else if (a.how == 1) {
                for (int w : a.inUse) {
                    if (w != x && !nodes.get(w).broken) {
                        send(5, u, w, a.stamp);
                    }
                }
                a.how = 0;
                a.none();
                if (canAsk(u)) {
                    doAsk(u);
                }
            }
        }
        return true;
    }

    boolean mend(int v) {
        if (!isNode(v) || !nodes.get(v).broken || count(1) + count(2) > 0 || !letters.isEmpty()) {
            return false;
        }
        nodes.get(v).broken = false;
        return true;
    }

    int node(int v, int what) {
        if (!isNode(v)) {
            return -1;
        }
        Node a = nodes.get(v);
        int[] told = {a.how, a.clock, a.stamp, bits(a.votes), bits(a.doubts), bits(a.fails), a.broken ? 1 : 0, a.times};
        return what < 0 || what > 7 ? -1 : told[what];
    }

    int arbiter(int v, int what) {
        if (!isNode(v) || what < 0 || what > 3) {
            return -1;
        }
        Node r = nodes.get(v);
        if (what < 2) {
            return r.granted == null ? -1 : r.granted[what];
        }
        return what == 2 ? (r.inquired ? 1 : 0) : r.waiting.size();
    }

    int waiting(int v, int i, int what) {
        if (!isNode(v) || what < 0 || what > 1 || i < 0 || i >= nodes.get(v).waiting.size()) {
            return -1;
        }
        return nodes.get(v).waiting.get(i)[what];
    }

    int way(int from, int to, int k) {
        if (!isNode(from) || !isNode(to)) {
            return -1;
        }
        List<Integer> kinds = new ArrayList<>();
        for (Letter l : letters) {
            if (l.from == from && l.to == to) {
                kinds.add(l.kind);
            }
        }
        return k == -1 ? kinds.size() : k < 0 || k >= kinds.size() ? -1 : kinds.get(k);
    }

    private List<int[]> moves() {
        List<int[]> m = new ArrayList<>();
        for (int a = 0; a < n(); a++) {
            for (int b = 0; b < n(); b++) {
                if (firstFromTo(a, b) != null) {
                    m.add(new int[] {a, b});
                }
            }
        }
        for (int v = 0; v < n(); v++) {
            if (nodes.get(v).how == 2) {
                m.add(new int[] {v});
            }
        }
        return m;
    }

    private void doMove(int[] m) {
        if (m.length == 2) {
            bring(m[0], m[1]);
        } else {
            leave(m[0]);
        }
    }

    private TreeSet<Integer> those(int how) {
        TreeSet<Integer> s = new TreeSet<>();
        for (int v = 0; v < n(); v++) {
            if (nodes.get(v).how == how) {
                s.add(v);
            }
        }
        return s;
    }

    private TreeSet<Integer> awaited(int v) {
        TreeSet<Integer> s = new TreeSet<>();
        if (nodes.get(v).how == 1) {
            for (int u : nodes.get(v).inUse) {
                int[] granted = nodes.get(u).granted;
                if (!nodes.get(v).votes.contains(u) && granted != null && granted[0] != v) {
                    s.add(granted[0]);
                }
            }
        }
        return s;
    }

    private boolean waitsForItself(int v) {
        Set<Integer> seen = new HashSet<>();
        List<Integer> open = new ArrayList<>(awaited(v));
        while (!open.isEmpty()) {
            int u = open.remove(0);
            if (seen.add(u)) {
                open.addAll(awaited(u));
            }
        }
        return seen.contains(v);
    }

    int is(int what) {
        TreeSet<Integer> round = new TreeSet<>();
        for (int v = 0; v < n(); v++) {
            if (waitsForItself(v)) {
                round.add(v);
            }
        }
        int[] told = {n(), letters.size(), bits(those(2)), bits(those(1)), bits(brokenNow()), entries, bringings,
            together, mostLetters, mostWaited, moves().size(), overtook, bits(round)};
        return what < 0 || what > 12 ? -1 : told[what];
    }

    int handled(int v) {
        return isNode(v) ? nodes.get(v).handled : -1;
    }

    int sent(int kind) {
        if (kind < 0 || kind > 6) {
            return -1;
        }
        int all = 0;
        for (int s : sentOf) {
            all += s;
        }
        return kind == 6 ? all : sentOf[kind];
    }

    private static int tell(List<int[]> rows, int most, int ago, int what) {
        int held = Math.min(rows.size(), most);
        if (ago == -1) {
            return held;
        }
        return ago < 0 || ago >= held || what < 0 || what > 3 ? -2 : rows.get(ago)[what];
    }

    int book(int ago, int what) {
        return tell(bookRows, 30, ago, what);
    }

    int trace(int ago, int what) {
        return tell(traceRows, 40, ago, what);
    }

    int waitsFor(int v) {
        return !isNode(v) || nodes.get(v).how != 1 ? -1 : bits(awaited(v));
    }

    int unheard(int v) {
        if (!isNode(v) || nodes.get(v).how != 1) {
            return -1;
        }
        TreeSet<Integer> s = new TreeSet<>(nodes.get(v).inUse);
        s.removeAll(nodes.get(v).votes);
        s.removeAll(nodes.get(v).fails);
        return bits(s);
    }

    int crowded(int what) {
        int best = -1;
        for (int v = n() - 1; v >= 0; v--) {
            int many = nodes.get(v).waiting.size();
            if (many > 0 && (best < 0 || many >= nodes.get(best).waiting.size())) {
                best = v;
            }
        }
        return what == 0 ? best : what == 1 ? (best < 0 ? 0 : nodes.get(best).waiting.size()) : -1;
    }

    private boolean drawMove() {
        List<int[]> m = moves();
        if (m.isEmpty()) {
            return false;
        }
        g = BigInteger.valueOf(g).multiply(BigInteger.valueOf(1103515245)).add(BigInteger.valueOf(12345))
            .mod(BigInteger.valueOf(2147483648L)).longValueExact();
        doMove(m.get((int) ((g / 65536) % m.size())));
        return true;
    }

    int goOn(int seed, int times) {
        if (seed < 0 || times < 0 || times > 500) {
            return -1;
        }
        g = seed;
        int done = 0;
        for (int i = 0; i < times; i++) {
            if (drawMove()) {
                done++;
            }
        }
        return done;
    }

    int entersBy(int v, int seed) {
        if (!isNode(v) || seed < 0) {
            return -1;
        }
        Model c = new Model(this);
        c.g = seed;
        for (int moves = 0; moves <= 500; moves++) {
            if (c.nodes.get(v).how == 2) {
                return moves;
            }
            c.drawMove();
        }
        return -1;
    }

    private String key() {
        StringBuilder s = new StringBuilder();
        for (Node v : nodes) {
            s.append(v.how).append(' ').append(v.clock).append(' ').append(v.stamp).append(v.inUse).append(v.votes)
                .append(v.doubts).append(v.fails).append(v.broken).append(v.inquired);
            s.append(v.granted == null ? "nobody" : v.granted[0] + ":" + v.granted[1]);
            for (int[] w : v.waiting) {
                s.append(" w").append(w[0]).append(':').append(w[1]);
            }
        }
        for (int a = 0; a < n(); a++) {
            for (int b = 0; b < n(); b++) {
                s.append('|');
                for (Letter l : letters) {
                    if (l.from == a && l.to == b) {
                        s.append(l.kind).append('@').append(l.stamp).append(',');
                    }
                }
            }
        }
        return s.toString();
    }

    private static final class Found {
        List<Model> states = new ArrayList<>();
        List<Integer> depths = new ArrayList<>();
        int stuck;
        boolean left;
    }

    private Found look(int askers, int most) {
        Found f = new Found();
        Set<String> keys = new HashSet<>();
        f.states.add(new Model(this));
        f.depths.add(0);
        keys.add(key());
        for (int i = 0; i < f.states.size(); i++) {
            Model s = f.states.get(i);
            List<Model> next = new ArrayList<>();
            for (int[] m : s.moves()) {
                Model c = new Model(s);
                c.doMove(m);
                next.add(c);
            }
            for (int v = 0; v < n(); v++) {
                if ((askers >> v & 1) == 1 && s.canAsk(v) && s.nodes.get(v).stamp == nodes.get(v).stamp) {
                    Model c = new Model(s);
                    c.doAsk(v);
                    next.add(c);
                }
            }
            if (next.isEmpty() && s.count(1) > 0) {
                f.stuck++;
            }
            for (Model c : next) {
                String key = c.key();
                if (keys.contains(key)) {
                    continue;
                }
                if (f.states.size() == most) {
                    f.left = true;
                    continue;
                }
                keys.add(key);
                f.states.add(c);
                f.depths.add(f.depths.get(i) + 1);
            }
        }
        return f;
    }

    int searched(int states, int what) {
        return searchedBy(0, states, what);
    }

    int searchedBy(int askers, int states, int what) {
        if (askers < 0 || askers >= 1 << n() || states < 1 || states > 40 || what < 0 || what > 5) {
            return -1;
        }
        Found f = look(askers, states);
        int two = 0;
        int letterMost = 0;
        int depth = 0;
        for (int i = 0; i < f.states.size(); i++) {
            two += f.states.get(i).count(2) > 1 ? 1 : 0;
            letterMost = Math.max(letterMost, f.states.get(i).letters.size());
            depth = Math.max(depth, f.depths.get(i));
        }
        return new int[] {f.states.size(), two, f.stuck, letterMost, f.left ? 0 : 1, depth}[what];
    }

    int soonest(int v, int states) {
        if (!isNode(v) || states < 1 || states > 40) {
            return -1;
        }
        Found f = look(0, states);
        int best = -1;
        for (int i = 0; i < f.states.size(); i++) {
            if (f.states.get(i).nodes.get(v).how == 2 && (best < 0 || f.depths.get(i) < best)) {
                best = f.depths.get(i);
            }
        }
        return best;
    }

    boolean delay(int from, int to, int way) {
        if (!isNode(from) || !isNode(to) || way < 1 || way > 9) {
            return false;
        }
        ways[from][to] = way;
        return true;
    }

    int timed(int hold, int v, int what) {
        if (hold < 1 || hold > 20 || !isNode(v) || what < 0 || what > 4) {
            return -1;
        }
        Model c = new Model(this);
        c.lastEntryTime = -1;
        int[] firstIn = new int[n()];
        for (int u = 0; u < n(); u++) {
            firstIn[u] = c.nodes.get(u).how == 2 ? 0 : -1;
            c.nodes.get(u).cameAt = 0;
        }
        int before = entries;
        int nobody = 0;
        int t = 0;
        while (t < 300) {
            c.time = t;
            for (int u = 0; u < n(); u++) {
                if (c.nodes.get(u).how == 2 && c.nodes.get(u).cameAt + hold == t) {
                    c.leave(u);
                }
            }
            for (Letter l : c.dueBy(t)) {
                c.deliver(l);
                for (int u = 0; u < n(); u++) {
                    if (c.nodes.get(u).how == 2 && firstIn[u] < 0) {
                        firstIn[u] = t;
                    }
                }
            }
            if (c.count(2) == 0) {
                nobody++;
                if (c.letters.isEmpty()) {
                    break;
                }
            }
            t++;
        }
        return new int[] {t, c.entries - before, c.lastEntryTime, firstIn[v], nobody}[what];
    }

    private List<Letter> dueBy(int t) {
        List<Letter> due = new ArrayList<>();
        int[][] latest = new int[n()][n()];
        for (Letter l : letters) {
            l.due = Math.max(l.went + ways[l.from][l.to], latest[l.from][l.to]);
            latest[l.from][l.to] = l.due;
            if (l.due <= t) {
                due.add(l);
            }
        }
        due.sort(Comparator.<Letter>comparingInt(l -> l.went).thenComparingInt(l -> l.from).thenComparingInt(l -> l.to));
        return due;
    }

    int crowd(int seed, int times, int what) {
        if (seed < 0 || times < 0 || times > 500 || what < 0 || what > 5) {
            return -1;
        }
        Model c = new Model(this);
        c.g = seed;
        for (int i = 0; i < times; i++) {
            for (int v = 0; v < n(); v++) {
                c.ask(v);
            }
            c.drawMove();
        }
        int fewest = -1;
        int most = 0;
        for (int v = 0; v < n(); v++) {
            int more = c.nodes.get(v).times - nodes.get(v).times;
            most = Math.max(most, more);
            if (!nodes.get(v).broken && (fewest < 0 || more < fewest)) {
                fewest = more;
            }
        }
        return new int[] {c.entries - entries, fewest, most, c.together - together, c.sent(6) - sent(6),
            c.mostWaited}[what];
    }

    int mean() {
        return entries == 0 ? 0 : Float.floatToIntBits((float) sent(6) / (float) entries);
    }

    long byRoot() {
        return entries == 0 ? 0 : Double.doubleToLongBits((double) sent(6) / entries / (int) Math.sqrt(n()));
    }
}
