import java.util.Arrays;

/** A gate that one may be in at a time, by quorums that meet. */
public final class QuorumGate {
    public static final int NONE = -1;

    private static final int NOTHING = -2;
    private static final int MOST_NODES = 16;
    private static final int MOST_MOVES = 500;
    private static final int MOST_STATES = 40;
    private static final int MOST_ODDS = 10;
    private static final int LONGEST_HOLD = 20;
    private static final int LONGEST_WAY = 9;
    private static final int NOT_OVER = 300;
    private static final int HELD_ENTRIES = 30;
    private static final int HELD_BRINGINGS = 40;

    private static final int IDLE = 0;
    private static final int ASKING = 1;
    private static final int INSIDE = 2;

    private static final int REQUEST = 0;
    private static final int GRANT = 1;
    private static final int FAIL = 2;
    private static final int INQUIRE = 3;
    private static final int YIELD = 4;
    private static final int RELEASE = 5;
    private static final int KINDS = 6;

    private final Sets sets = new Sets();
    private final Survey survey = new Survey();
    private final Hall hall = new Hall(sets);
    private final Hall trial = new Hall(sets);
    private final Clockwork clockwork = new Clockwork();
    private final Search search = new Search(trial);

    public QuorumGate() {
        sets.makeFilled(4);
        startAnew();
    }

    public int grid(int k) {
        if (k < 2 || k > 4) {
            return NONE;
        }
        sets.makeFilled(k * k);
        return startAnew();
    }

    public int plane(int q) {
        if (q < 2 || q > 3) {
            return NONE;
        }
        sets.makePlane(q);
        return startAnew();
    }

    public int filled(int n) {
        if (n < 2 || n > MOST_NODES) {
            return NONE;
        }
        sets.makeFilled(n);
        return startAnew();
    }

    public int majority(int n) {
        if (n < 2 || n > MOST_NODES) {
            return NONE;
        }
        sets.makeMajority(n);
        return startAnew();
    }

    public int wheel(int n) {
        if (n < 3 || n > MOST_NODES) {
            return NONE;
        }
        sets.makeWheel(n);
        return startAnew();
    }

    public int tree(int h) {
        if (h < 2 || h > 4) {
            return NONE;
        }
        sets.makeTree(h);
        return startAnew();
    }

    public int within(int node, int m) {
        if (!sets.isNode(node) || m < 2 || m > 8 || sets.count - 1 + m > MOST_NODES) {
            return NONE;
        }
        sets.makeWithin(node, m);
        return startAnew();
    }

    public int base(int node, int set) {
        if (!sets.isNode(node) || set == 0 || !sets.isSetOfNodes(set)) {
            return NONE;
        }
        sets.tellByHand(node, set);
        startAnew();
        return sets.countApart();
    }

    public int quorum(int node, int what) {
        if (!sets.isNode(node)) {
            return NONE;
        }
        switch (what) {
            case 0: return sets.bases[node];
            case 1: return hall.quorums[node];
            case 2: return hall.places[node].inUse;
            default: return NONE;
        }
    }

    public int meeting(int a, int b) {
        if (!sets.isNode(a) || !sets.isNode(b)) {
            return NONE;
        }
        return lowest(sets.bases[a] & sets.bases[b]);
    }

    public int apart() {
        return sets.countApart();
    }

    public int load(int node) {
        return sets.isNode(node) ? sets.loadOf(node) : NONE;
    }

    public boolean stops(int set) {
        return !sets.someQuorum(set & sets.allNodes());
    }

    public int weakest(int what) {
        if (what < 0 || what > 1) {
            return NONE;
        }
        surveyOnce();
        int least = survey.enough.leastStop();
        return what == 0 ? Integer.bitCount(least) : least;
    }

    public int needless() {
        return sets.countNeedless();
    }

    public int chance(int odds) {
        if (odds < 0 || odds > MOST_ODDS) {
            return NONE;
        }
        surveyOnce();
        return survey.millionths(NONE, odds, sets.count);
    }

    public int chanceOf(int node, int odds) {
        if (!sets.isNode(node) || odds < 0 || odds > MOST_ODDS) {
            return NONE;
        }
        surveyOnce();
        return survey.millionths(node, odds, sets.count);
    }

    public int sizes(int what) {
        switch (what) {
            case 0: return sets.leastSize();
            case 1: return sets.greatestSize();
            case 2: return Integer.bitCount(sets.common());
            default: return NONE;
        }
    }

    public int pivotal(int node) {
        if (!sets.isNode(node)) {
            return NONE;
        }
        surveyOnce();
        return survey.live.turnedBy(node);
    }

    public boolean fair() {
        return sets.leastSize() == sets.greatestSize() && sets.sameLoads();
    }

    public int better() {
        surveyOnce();
        return survey.live.leastBetter();
    }

    public int ask(int node) {
        if (!sets.isNode(node) || !hall.mayAsk(node)) {
            return NONE;
        }
        hall.startAsking(node);
        return hall.places[node].stamp;
    }

    public boolean leave(int node) {
        if (!sets.isNode(node) || !has(hall.inside, node)) {
            return false;
        }
        hall.finish(node);
        return true;
    }

    public int bring(int from, int to) {
        return hall.bringFirst(from, to);
    }

    public boolean withdraw(int node) {
        if (!sets.isNode(node) || !has(hall.asking, node)) {
            return false;
        }
        hall.finish(node);
        return true;
    }

    public boolean breakDown(int node) {
        if (!sets.isNode(node) || hall.howIs(node) != IDLE || has(hall.broken, node)) {
            return false;
        }
        hall.breakNode(node);
        return true;
    }

    public boolean mend(int node) {
        if (!sets.isNode(node) || !has(hall.broken, node) || !hall.isStill()) {
            return false;
        }
        hall.mendNode(node);
        return true;
    }

    public int node(int node, int what) {
        if (!sets.isNode(node)) {
            return NONE;
        }
        Place place = hall.places[node];
        switch (what) {
            case 0: return hall.howIs(node);
            case 1: return place.clock;
            case 2: return place.stamp;
            case 3: return place.votes;
            case 4: return place.doubts;
            case 5: return place.fails;
            case 6: return has(hall.broken, node) ? 1 : 0;
            case 7: return place.entries;
            default: return NONE;
        }
    }

    public int arbiter(int node, int what) {
        if (!sets.isNode(node)) {
            return NONE;
        }
        Place place = hall.places[node];
        switch (what) {
            case 0: return place.granted;
            case 1: return place.grantedStamp;
            case 2: return place.inquired ? 1 : 0;
            case 3: return Integer.bitCount(place.waiters);
            default: return NONE;
        }
    }

    public int waiting(int node, int i, int what) {
        if (!sets.isNode(node) || what < 0 || what > 1) {
            return NONE;
        }
        Place place = hall.places[node];
        int waiter = place.waiterAt(i);
        if (waiter == NONE) {
            return NONE;
        }
        return what == 0 ? waiter : place.waitStamps[waiter];
    }

    public int way(int from, int to, int k) {
        if (!sets.isNode(from) || !sets.isNode(to)) {
            return NONE;
        }
        return k == NONE ? hall.post.countOn(from, to) : hall.post.kindAt(from, to, k);
    }

    public int is(int what) {
        switch (what) {
            case 0: return sets.count;
            case 1: return hall.post.total;
            case 2: return hall.inside;
            case 3: return hall.asking;
            case 4: return hall.broken;
            case 5: return hall.entries;
            case 6: return hall.bringings;
            case 7: return hall.together;
            case 8: return hall.mostLetters;
            case 9: return hall.mostWaited;
            case 10: return hall.countMoves();
            case 11: return hall.overtaken;
            case 12: return hall.round();
            default: return NONE;
        }
    }

    public int handled(int node) {
        return sets.isNode(node) ? hall.places[node].handled : NONE;
    }

    public int sent(int kind) {
        if (kind < 0 || kind > KINDS) {
            return NONE;
        }
        return kind == KINDS ? hall.post.sentInAll() : hall.post.sent[kind];
    }

    public int book(int ago, int what) {
        return hall.entriesHeld.tell(ago, what);
    }

    public int waitsFor(int node) {
        return sets.isNode(node) && has(hall.asking, node) ? hall.awaitedBy(node) : NONE;
    }

    public int unheard(int node) {
        if (!sets.isNode(node) || !has(hall.asking, node)) {
            return NONE;
        }
        Place place = hall.places[node];
        return place.inUse & ~(place.votes | place.fails);
    }

    public int crowded(int what) {
        if (what < 0 || what > 1) {
            return NONE;
        }
        int most = 0;
        int where = NONE;
        for (int v = 0; v < sets.count; v++) {
            int many = Integer.bitCount(hall.places[v].waiters);
            if (many > most) {
                most = many;
                where = v;
            }
        }
        return what == 0 ? where : most;
    }

    public int trace(int ago, int what) {
        return hall.bringingsHeld.tell(ago, what);
    }

    public int goOn(int seed, int times) {
        if (seed < 0 || times < 0 || times > MOST_MOVES) {
            return NONE;
        }
        hall.drawn = seed;
        int moves = 0;
        while (moves < times && hall.moveByDraw()) {
            moves++;
        }
        return moves;
    }

    public int entersBy(int node, int seed) {
        if (!sets.isNode(node) || seed < 0) {
            return NONE;
        }
        trial.copyFrom(hall);
        trial.drawn = seed;
        int moves = 0;
        while (!has(trial.inside, node)) {
            if (moves >= MOST_MOVES || !trial.moveByDraw()) {
                return NONE;
            }
            moves++;
        }
        return moves;
    }

    public int searched(int states, int what) {
        if (states < 1 || states > MOST_STATES) {
            return NONE;
        }
        search.run(hall, 0, states);
        return search.tell(what);
    }

    public int searchedBy(int askers, int states, int what) {
        if (!sets.isSetOfNodes(askers) || states < 1 || states > MOST_STATES) {
            return NONE;
        }
        search.run(hall, askers, states);
        return search.tell(what);
    }

    public boolean delay(int from, int to, int way) {
        if (!sets.isNode(from) || !sets.isNode(to) || way < 1 || way > LONGEST_WAY) {
            return false;
        }
        clockwork.ways[from * MOST_NODES + to] = way;
        return true;
    }

    public int timed(int hold, int node, int what) {
        if (hold < 1 || hold > LONGEST_HOLD || !sets.isNode(node) || what < 0 || what > 4) {
            return NONE;
        }
        trial.copyFrom(hall);
        clockwork.run(trial, hold);
        switch (what) {
            case 0: return clockwork.end;
            case 1: return trial.entries - hall.entries;
            case 2: return clockwork.lastEntry;
            case 3: return firstInside(node);
            default: return clockwork.emptyTimes;
        }
    }

    public int soonest(int node, int states) {
        if (!sets.isNode(node) || states < 1 || states > MOST_STATES) {
            return NONE;
        }
        search.run(hall, 0, states);
        return search.soonestInside(node);
    }

    public int crowd(int seed, int times, int what) {
        if (seed < 0 || times < 0 || times > MOST_MOVES || what < 0 || what > 5) {
            return NONE;
        }
        trial.copyFrom(hall);
        trial.drawn = seed;
        boolean moved = true;
        for (int i = 0; i < times && moved; i++) {
            trial.letAllAsk();
            moved = trial.moveByDraw();
        }
        switch (what) {
            case 0: return trial.entries - hall.entries;
            case 1: return fewestNewEntries();
            case 2: return mostNewEntries();
            case 3: return trial.together - hall.together;
            case 4: return trial.post.sentInAll() - hall.post.sentInAll();
            default: return trial.mostWaited;
        }
    }

    public int mean() {
        if (hall.entries < 1) {
            return 0;
        }
        return floatBits((float) hall.post.sentInAll() / (float) hall.entries);
    }

    public long byRoot() {
        if (hall.entries < 1) {
            return 0;
        }
        double each = (double) hall.post.sentInAll() / (double) hall.entries;
        return doubleBits(each / (double) wholeRoot(sets.count));
    }

    private int startAnew() {
        hall.clear();
        clockwork.clear();
        survey.taken = false;
        return sets.count;
    }

    private void surveyOnce() {
        if (!survey.taken) {
            survey.take(sets);
        }
    }

    private int firstInside(int node) {
        if (has(hall.inside, node)) {
            return 0;
        }
        boolean entered = trial.places[node].entries > hall.places[node].entries;
        return entered ? trial.places[node].since : NONE;
    }

    private int newEntries(int node) {
        return trial.places[node].entries - hall.places[node].entries;
    }

    private int fewestNewEntries() {
        int fewest = NONE;
        for (int v = 0; v < sets.count; v++) {
            if (!has(hall.broken, v) && (fewest == NONE || newEntries(v) < fewest)) {
                fewest = newEntries(v);
            }
        }
        return fewest;
    }

    private int mostNewEntries() {
        int most = 0;
        for (int v = 0; v < sets.count; v++) {
            most = Math.max(most, newEntries(v));
        }
        return most;
    }

    private static boolean has(int set, int node) {
        return (set >> node & 1) != 0;
    }

    private static int lowest(long bits) {
        return bits == 0 ? NONE : Long.bitCount((bits & -bits) - 1);
    }

    /** The node that stands i-th in a set, rising. */
    private static int memberAt(int set, int i) {
        int left = i;
        for (int v = 0; v < MOST_NODES; v++) {
            if (has(set, v)) {
                if (left == 0) {
                    return v;
                }
                left--;
            }
        }
        return NONE;
    }

    private static boolean isAhead(int stamp, int node, int otherStamp, int otherNode) {
        return stamp < otherStamp || (stamp == otherStamp && node < otherNode);
    }

    private static int wholeRoot(int n) {
        int root = 1;
        while (root < MOST_NODES && (root + 1) * (root + 1) <= n) {
            root++;
        }
        return root;
    }

    // The bits are put together by hand, since the language leaves no function that tells them;
    // halving and doubling lose nothing, so the digits stay those of the quotient.
    private static int floatBits(float value) {
        float digits = value;
        int exponent = 0;
        while (digits >= 2.0f && exponent < 127) {
            digits = digits / 2.0f;
            exponent++;
        }
        while (digits < 1.0f && exponent > -126) {
            digits = digits * 2.0f;
            exponent--;
        }
        return ((exponent + 127) << 23) | (int) ((digits - 1.0f) * 8388608.0f);
    }

    private static long doubleBits(double value) {
        double digits = value;
        int exponent = 0;
        while (digits >= 2.0 && exponent < 1023) {
            digits = digits / 2.0;
            exponent++;
        }
        while (digits < 1.0 && exponent > -1022) {
            digits = digits * 2.0;
            exponent--;
        }
        return ((long) (exponent + 1023) << 52) | (long) ((digits - 1.0) * 4503599627370496.0);
    }

    /** The base of every node. */
    private static final class Sets {
        private static final int[] PLANE_STEPS = {0, 1, 3, 9};

        final int[] bases = new int[MOST_NODES];
        final int[] former = new int[MOST_NODES];
        final int[] wholes = new int[MOST_NODES];
        int count;
        boolean tree;

        void makeFilled(int n) {
            int side = 2;
            while (side < 4 && side * side < n) {
                side++;
            }
            begin(n);
            for (int v = 0; v < n; v++) {
                int row = v / side;
                int column = v % side;
                for (int i = 0; i < side; i++) {
                    bases[v] |= 1 << (row * side + i) % n;
                    bases[v] |= 1 << (i * side + column) % n;
                }
            }
        }

        void makePlane(int q) {
            int n = q * q + q + 1;
            begin(n);
            for (int v = 0; v < n; v++) {
                for (int i = 0; i <= q; i++) {
                    bases[v] |= 1 << (v + PLANE_STEPS[i]) % n;
                }
            }
        }

        void makeMajority(int n) {
            begin(n);
            for (int v = 0; v < n; v++) {
                bases[v] = majorityFrom(v, n);
            }
        }

        void makeWheel(int n) {
            begin(n);
            bases[0] = allNodes() & ~1;
            for (int v = 1; v < n; v++) {
                bases[v] = 1 | 1 << v;
            }
        }

        void makeTree(int h) {
            int n = (1 << h) - 1;
            begin(n);
            tree = true;
            for (int v = 0; v < n; v++) {
                bases[v] = 1;
                for (int u = v; u > 0; u = (u - 1) / 2) {
                    bases[v] |= 1 << u;
                }
                for (int u = 2 * v + 1; u < n; u = 2 * u + 1) {
                    bases[v] |= 1 << u;
                }
            }
        }

        void makeWithin(int node, int m) {
            int kept = count - 1;
            System.arraycopy(bases, 0, former, 0, count);
            begin(kept + m);
            for (int v = 0; v <= kept; v++) {
                if (v != node) {
                    int place = v < node ? v : v - 1;
                    bases[place] = replaced(former[v], node, majorityFrom(v % m, m) << kept);
                }
            }
            for (int j = 0; j < m; j++) {
                bases[kept + j] = replaced(former[node], node, majorityFrom(j, m) << kept);
            }
        }

        void tellByHand(int node, int set) {
            bases[node] = set;
            tree = false;
        }

        private void begin(int n) {
            count = n;
            tree = false;
            Arrays.fill(bases, 0);
        }

        private static int majorityFrom(int v, int n) {
            int set = 0;
            for (int i = 0; i <= n / 2; i++) {
                set |= 1 << (v + i) % n;
            }
            return set;
        }

        private static int replaced(int set, int node, int instead) {
            int before = set & ((1 << node) - 1);
            int behind = (set >> (node + 1)) << node;
            return before | behind | (has(set, node) ? instead : 0);
        }

        int allNodes() {
            return (1 << count) - 1;
        }

        boolean isNode(int node) {
            return node >= 0 && node < count;
        }

        boolean isSetOfNodes(int set) {
            return (set & ~allNodes()) == 0;
        }

        int quorumNow(int node, int broken) {
            if ((bases[node] & broken) == 0) {
                return bases[node];
            }
            if (tree) {
                return wholeOfRoot(broken);
            }
            return firstUnbroken(broken);
        }

        boolean someQuorum(int broken) {
            return (tree ? wholeOfRoot(broken) : firstUnbroken(broken)) != 0;
        }

        private int firstUnbroken(int broken) {
            for (int v = 0; v < count; v++) {
                if ((bases[v] & broken) == 0) {
                    return bases[v];
                }
            }
            return 0;
        }

        /** From the leaves up, so that both below a node are known before it. */
        private int wholeOfRoot(int broken) {
            for (int v = count - 1; v >= 0; v--) {
                wholes[v] = wholeOf(v, broken);
            }
            return wholes[0];
        }

        private int wholeOf(int v, int broken) {
            boolean isBroken = has(broken, v);
            int below = 2 * v + 1;
            if (below + 1 >= count) {
                return isBroken ? 0 : 1 << v;
            }
            int first = wholes[below];
            int second = wholes[below + 1];
            if (isBroken) {
                return first != 0 && second != 0 ? first | second : 0;
            }
            int taken = first != 0 ? first : second;
            return taken != 0 ? taken | 1 << v : 0;
        }

        int countApart() {
            int pairs = 0;
            for (int a = 0; a < count; a++) {
                for (int b = a + 1; b < count; b++) {
                    if ((bases[a] & bases[b]) == 0) {
                        pairs++;
                    }
                }
            }
            return pairs;
        }

        int loadOf(int node) {
            int many = 0;
            for (int v = 0; v < count; v++) {
                if (has(bases[v], node)) {
                    many++;
                }
            }
            return many;
        }

        boolean sameLoads() {
            for (int v = 1; v < count; v++) {
                if (loadOf(v) != loadOf(0)) {
                    return false;
                }
            }
            return true;
        }

        int countNeedless() {
            int many = 0;
            for (int v = 0; v < count; v++) {
                if (isNeedless(v)) {
                    many++;
                }
            }
            return many;
        }

        private boolean isNeedless(int node) {
            for (int v = 0; v < count; v++) {
                boolean inside = v != node && (bases[v] & ~bases[node]) == 0;
                if (inside && (bases[v] != bases[node] || v < node)) {
                    return true;
                }
            }
            return false;
        }

        int leastSize() {
            int least = MOST_NODES;
            for (int v = 0; v < count; v++) {
                least = Math.min(least, Integer.bitCount(bases[v]));
            }
            return least;
        }

        int greatestSize() {
            int greatest = 0;
            for (int v = 0; v < count; v++) {
                greatest = Math.max(greatest, Integer.bitCount(bases[v]));
            }
            return greatest;
        }

        int common() {
            int set = allNodes();
            for (int v = 0; v < count; v++) {
                set &= bases[v];
            }
            return set;
        }
    }

    /** A bit for each set of nodes: a family that has with a set each greater one that holds it, too. */
    private static final class Family {
        // The place of a bit in its word tells which of the nodes 0 .. 5 the set has, the word which others.
        private static final int LOW_NODES = 6;
        private static final int MOST_WORDS = 1 << (MOST_NODES - LOW_NODES);
        private static final long[] HAVING = {
            0xaaaaaaaaaaaaaaaaL, 0xccccccccccccccccL, 0xf0f0f0f0f0f0f0f0L,
            0xff00ff00ff00ff00L, 0xffff0000ffff0000L, 0xffffffff00000000L,
        };
        private static final long[] OF_SIZE = {
            0x1L, 0x100010116L, 0x1011601161668L, 0x116166816686880L,
            0x1668688068808000L, 0x6880800080000000L, 0x8000000000000000L,
        };

        final long[] words = new long[MOST_WORDS];
        int count;
        int used;

        void begin(int nodes) {
            count = nodes;
            used = nodes > LOW_NODES ? 1 << (nodes - LOW_NODES) : 1;
            Arrays.fill(words, 0);
        }

        void add(int set) {
            words[set >> LOW_NODES] |= 1L << (set & 63);
        }

        void addGreater() {
            for (int v = 0; v < LOW_NODES && v < count; v++) {
                for (int w = 0; w < used; w++) {
                    words[w] |= (words[w] & ~HAVING[v]) << (1 << v);
                }
            }
            for (int bit = 1; bit < used; bit = bit * 2) {
                for (int w = 0; w < used; w++) {
                    if ((w & bit) != 0) {
                        words[w] |= words[w ^ bit];
                    }
                }
            }
        }

        /** Of a word the sets whose rest, all other nodes, is none of the family. */
        private long withoutRest(int w) {
            long rests = words[used - 1 - w];
            for (int v = 0; v < LOW_NODES && v < count; v++) {
                rests = (rests & HAVING[v]) >>> (1 << v) | (rests & ~HAVING[v]) << (1 << v);
            }
            long all = count < LOW_NODES ? (1L << (1 << count)) - 1 : -1L;
            return all & ~rests;
        }

        int leastStop() {
            int least = NONE;
            int fewest = MOST_NODES + 1;
            for (int w = 0; w < used; w++) {
                long stops = withoutRest(w);
                for (int low = 0; low <= LOW_NODES; low++) {
                    int size = Integer.bitCount(w) + low;
                    if (size < fewest && (stops & OF_SIZE[low]) != 0) {
                        fewest = size;
                        least = w << LOW_NODES | lowest(stops & OF_SIZE[low]);
                    }
                }
            }
            return least;
        }

        // A set has a node in common with each base if its rest has no base within it.
        int leastBetter() {
            for (int w = 0; w < used; w++) {
                long better = ~words[w] & withoutRest(w);
                if (better != 0) {
                    return w << LOW_NODES | lowest(better);
                }
            }
            return NONE;
        }

        /** Of a word the sets of the family with a node, or, of NONE, all. */
        private long having(int w, int node) {
            if (node < 0) {
                return words[w];
            }
            if (node < LOW_NODES) {
                return words[w] & HAVING[node];
            }
            return (w >> (node - LOW_NODES) & 1) != 0 ? words[w] : 0;
        }

        /** Each set of the family with a node (NONE: each) counts what its size weighs. */
        long weigh(int node, long[] weights) {
            long all = 0;
            for (int w = 0; w < used; w++) {
                long here = having(w, node);
                for (int low = 0; low <= LOW_NODES && here != 0; low++) {
                    all += Long.bitCount(here & OF_SIZE[low]) * weights[Integer.bitCount(w) + low];
                }
            }
            return all;
        }

        // Each set of the family without a node is there with it, too: the others with it are those that it turns.
        int turnedBy(int node) {
            int turned = 0;
            for (int w = 0; w < used; w++) {
                turned += 2 * Long.bitCount(having(w, node)) - Long.bitCount(words[w]);
            }
            return turned;
        }
    }

    /** What is told of all sets of nodes: taken once for each choice of bases. */
    private static final class Survey {
        // Of a tree of 15 nodes: 255 of the root, 15 each of the two below it, and so on down.
        private static final int MOST_WHOLES = 305;

        final Family live = new Family();
        final Family enough = new Family();
        final long[] cases = new long[MOST_NODES + 1];
        final int[] wholes = new int[MOST_WHOLES];
        final int[] starts = new int[MOST_NODES];
        final int[] ends = new int[MOST_NODES];
        int listed;
        boolean taken;

        void take(Sets sets) {
            live.begin(sets.count);
            enough.begin(sets.count);
            for (int v = 0; v < sets.count; v++) {
                live.add(sets.bases[v]);
                enough.add(sets.bases[v]);
            }
            if (sets.tree) {
                addWholes(sets.count);
            }
            live.addGreater();
            enough.addGreater();
            taken = true;
        }

        private void addWholes(int count) {
            listed = 0;
            for (int v = count - 1; v >= 0; v--) {
                starts[v] = listed;
                if (2 * v + 2 < count) {
                    listWholes(v, 2 * v + 1, 2 * v + 2);
                } else {
                    listWhole(1 << v);
                }
                ends[v] = listed;
            }
            for (int i = starts[0]; i < ends[0]; i++) {
                enough.add(wholes[i]);
            }
        }

        private void listWholes(int v, int first, int second) {
            for (int i = starts[first]; i < ends[first]; i++) {
                listWhole(1 << v | wholes[i]);
                for (int k = starts[second]; k < ends[second]; k++) {
                    listWhole(wholes[i] | wholes[k]);
                }
            }
            for (int k = starts[second]; k < ends[second]; k++) {
                listWhole(1 << v | wholes[k]);
            }
        }

        private void listWhole(int set) {
            if (listed < MOST_WHOLES) {
                wholes[listed] = set;
                listed++;
            }
        }

        int millionths(int node, int odds, int count) {
            for (int size = 0; size <= count; size++) {
                cases[size] = power(MOST_ODDS - odds, size) * power(odds, count - size);
            }
            long all = enough.weigh(node, cases);
            if (count < 6) {
                return (int) (all * power(10, 6 - count));
            }
            return (int) (all / Math.max(1, power(10, count - 6)));
        }

        private static long power(int of, int times) {
            long value = 1;
            for (int i = 0; i < times; i++) {
                value *= of;
            }
            return value;
        }
    }

    /** Letters on the way, those of one pair one behind the other. */
    private static final class Post {
        private static final int KIND_BITS = 3;
        // Far above what 512 calls can send.
        private static final int MOST_LETTERS = 1 << 17;

        final int[] first = new int[MOST_NODES * MOST_NODES];
        final int[] last = new int[MOST_NODES * MOST_NODES];
        final int[] many = new int[MOST_NODES * MOST_NODES];
        // For each node to whom letters of it are on the way.
        final int[] busy = new int[MOST_NODES];
        final int[] sent = new int[KINDS];
        int[] letters = new int[64];
        int[] went = new int[64];
        int[] next = new int[64];
        int used;
        int free = NONE;
        int total;
        int now;

        static int kindOf(int letter) {
            return letter & (1 << KIND_BITS) - 1;
        }

        static int stampOf(int letter) {
            return letter >> KIND_BITS;
        }

        void put(int kind, int from, int to, int stamp) {
            if (total >= MOST_LETTERS) {
                return;
            }
            if (free == NONE && used >= letters.length) {
                letters = Arrays.copyOf(letters, used * 2);
                went = Arrays.copyOf(went, used * 2);
                next = Arrays.copyOf(next, used * 2);
            }
            int cell = free == NONE ? used++ : free;
            if (cell == free) {
                free = next[cell];
            }
            letters[cell] = stamp << KIND_BITS | kind;
            went[cell] = now;
            next[cell] = NONE;
            int lane = from * MOST_NODES + to;
            if (many[lane] == 0) {
                first[lane] = cell;
            } else {
                next[last[lane]] = cell;
            }
            last[lane] = cell;
            many[lane]++;
            busy[from] |= 1 << to;
            sent[kind]++;
            total++;
        }

        int takeFirst(int from, int to) {
            int lane = from * MOST_NODES + to;
            if (many[lane] == 0) {
                return NONE;
            }
            int cell = first[lane];
            first[lane] = next[cell];
            many[lane]--;
            if (many[lane] == 0) {
                busy[from] &= ~(1 << to);
            }
            next[cell] = free;
            free = cell;
            total--;
            return letters[cell];
        }

        void drop(int from, int to) {
            for (int k = countOn(from, to); k > 0; k--) {
                takeFirst(from, to);
            }
        }

        int countOn(int from, int to) {
            return many[from * MOST_NODES + to];
        }

        int kindAt(int from, int to, int k) {
            int lane = from * MOST_NODES + to;
            if (k < 0 || k >= many[lane]) {
                return NONE;
            }
            int cell = first[lane];
            for (int i = 0; i < k; i++) {
                cell = next[cell];
            }
            return kindOf(letters[cell]);
        }

        boolean hasGoneBy(int from, int to, int time) {
            int lane = from * MOST_NODES + to;
            return many[lane] > 0 && went[first[lane]] <= time;
        }

        int sentInAll() {
            int all = 0;
            for (int kind = 0; kind < KINDS; kind++) {
                all += sent[kind];
            }
            return all;
        }

        void clear() {
            clearLanes();
            Arrays.fill(sent, 0);
            now = 0;
        }

        void clearLanes() {
            Arrays.fill(many, 0);
            Arrays.fill(busy, 0);
            used = 0;
            free = NONE;
            total = 0;
        }

        void copyFrom(Post other) {
            if (letters.length < other.used) {
                letters = new int[other.letters.length];
                went = new int[other.letters.length];
                next = new int[other.letters.length];
            }
            System.arraycopy(other.letters, 0, letters, 0, other.used);
            System.arraycopy(other.went, 0, went, 0, other.used);
            System.arraycopy(other.next, 0, next, 0, other.used);
            System.arraycopy(other.first, 0, first, 0, first.length);
            System.arraycopy(other.last, 0, last, 0, last.length);
            System.arraycopy(other.many, 0, many, 0, many.length);
            System.arraycopy(other.busy, 0, busy, 0, busy.length);
            System.arraycopy(other.sent, 0, sent, 0, sent.length);
            used = other.used;
            free = other.free;
            total = other.total;
            now = other.now;
        }
    }

    /** A node: as one that asks, as an arbiter, and what is counted of it. */
    private static final class Place {
        int clock;
        int stamp;
        int inUse;
        int votes;
        int doubts;
        int fails;

        int granted = NONE;
        int grantedStamp = NONE;
        boolean inquired;
        int waiters;
        final int[] waitStamps = new int[MOST_NODES];

        int entries;
        int handled;
        int askedAt;
        int lettersSince;
        int since;

        void clear() {
            clock = 0;
            stamp = 0;
            rest();
            forgetAll();
            entries = 0;
            handled = 0;
            askedAt = 0;
            lettersSince = 0;
            since = 0;
        }

        void rest() {
            inUse = 0;
            votes = 0;
            doubts = 0;
            fails = 0;
        }

        void forgetAll() {
            forgetGranted();
            waiters = 0;
        }

        void forgetGranted() {
            granted = NONE;
            grantedStamp = NONE;
            inquired = false;
        }

        void copyFrom(Place other) {
            clock = other.clock;
            stamp = other.stamp;
            inUse = other.inUse;
            votes = other.votes;
            doubts = other.doubts;
            fails = other.fails;
            granted = other.granted;
            grantedStamp = other.grantedStamp;
            inquired = other.inquired;
            waiters = other.waiters;
            System.arraycopy(other.waitStamps, 0, waitStamps, 0, MOST_NODES);
            entries = other.entries;
            handled = other.handled;
            askedAt = other.askedAt;
            lettersSince = other.lettersSince;
            since = other.since;
        }

        void letWait(int node, int itsStamp) {
            waiters |= 1 << node;
            waitStamps[node] = itsStamp;
        }

        boolean isGrantedBy(int node, int itsStamp) {
            return granted == node && grantedStamp == itsStamp;
        }

        boolean isWaitingBy(int node, int itsStamp) {
            return has(waiters, node) && waitStamps[node] == itsStamp;
        }

        boolean isAheadOfGranted(int waiter) {
            return isAhead(waitStamps[waiter], waiter, grantedStamp, granted);
        }

        int firstWaiter() {
            int best = NONE;
            for (int v = 0; v < MOST_NODES; v++) {
                if (has(waiters, v) && (best == NONE || waitStamps[v] < waitStamps[best])) {
                    best = v;
                }
            }
            return best;
        }

        int waiterAt(int i) {
            for (int v = 0; v < MOST_NODES; v++) {
                if (has(waiters, v) && countAheadOf(v) == i) {
                    return v;
                }
            }
            return NONE;
        }

        private int countAheadOf(int waiter) {
            int many = 0;
            for (int v = 0; v < MOST_NODES; v++) {
                if (has(waiters, v) && isAhead(waitStamps[v], v, waitStamps[waiter], waiter)) {
                    many++;
                }
            }
            return many;
        }
    }

    /** The latest of what was written down, four numbers each. */
    private static final class Log {
        private static final int WIDTH = 4;

        final int most;
        final int[] cells;
        int held;
        int next;

        Log(int most) {
            this.most = most;
            cells = new int[most * WIDTH];
        }

        void empty() {
            held = 0;
            next = 0;
        }

        void add(int a, int b, int c, int d) {
            int at = next * WIDTH;
            cells[at] = a;
            cells[at + 1] = b;
            cells[at + 2] = c;
            cells[at + 3] = d;
            next = next + 1 < most ? next + 1 : 0;
            held = held < most ? held + 1 : most;
        }

        int tell(int ago, int what) {
            if (ago == NONE) {
                return held;
            }
            if (ago < 0 || ago >= held || what < 0 || what >= WIDTH) {
                return NOTHING;
            }
            int row = next - 1 - ago;
            return cells[(row < 0 ? row + most : row) * WIDTH + what];
        }
    }

    /** All nodes with their letters: how they ask, answer, break, and what is counted. */
    private static final class Hall {
        final Sets sets;
        final Post post = new Post();
        final Place[] places = new Place[MOST_NODES];
        final Log entriesHeld = new Log(HELD_ENTRIES);
        final Log bringingsHeld = new Log(HELD_BRINGINGS);
        final int[] quorums = new int[MOST_NODES];
        final int[] awaited = new int[MOST_NODES];
        int inside;
        int asking;
        int broken;
        int bringings;
        int entries;
        int together;
        int overtaken;
        int mostLetters;
        int mostWaited;
        long drawn;

        Hall(Sets sets) {
            this.sets = sets;
            for (int v = 0; v < MOST_NODES; v++) {
                places[v] = new Place();
            }
        }

        void clear() {
            post.clear();
            for (int v = 0; v < MOST_NODES; v++) {
                places[v].clear();
            }
            entriesHeld.empty();
            bringingsHeld.empty();
            inside = 0;
            asking = 0;
            broken = 0;
            bringings = 0;
            entries = 0;
            together = 0;
            overtaken = 0;
            mostLetters = 0;
            mostWaited = 0;
            System.arraycopy(sets.bases, 0, quorums, 0, MOST_NODES);
        }

        private void renewQuorums() {
            for (int v = 0; v < sets.count; v++) {
                quorums[v] = sets.quorumNow(v, broken);
            }
        }

        /** All but the book and the trace, which no trial tells. */
        void copyFrom(Hall other) {
            post.copyFrom(other.post);
            for (int v = 0; v < MOST_NODES; v++) {
                places[v].copyFrom(other.places[v]);
                quorums[v] = other.quorums[v];
            }
            inside = other.inside;
            asking = other.asking;
            broken = other.broken;
            bringings = other.bringings;
            entries = other.entries;
            together = other.together;
            overtaken = other.overtaken;
            mostLetters = other.mostLetters;
            mostWaited = other.mostWaited;
        }

        int howIs(int node) {
            if (has(inside, node)) {
                return INSIDE;
            }
            return has(asking, node) ? ASKING : IDLE;
        }

        boolean isStill() {
            return inside == 0 && asking == 0 && post.total == 0;
        }

        boolean mayAsk(int node) {
            return !has(inside | asking | broken, node) && quorums[node] != 0;
        }

        void startAsking(int node) {
            Place place = places[node];
            place.clock++;
            place.stamp = place.clock;
            place.rest();
            place.inUse = quorums[node];
            place.askedAt = bringings;
            place.lettersSince = 0;
            asking |= 1 << node;
            sendToAll(REQUEST, node, place.inUse);
        }

        void letAllAsk() {
            for (int v = 0; v < sets.count; v++) {
                if (mayAsk(v)) {
                    startAsking(v);
                }
            }
        }

        /** Leaving and withdrawing are the same to the arbiters. */
        void finish(int node) {
            sendToAll(RELEASE, node, places[node].inUse);
            beIdle(node);
        }

        private void beIdle(int node) {
            inside &= ~(1 << node);
            asking &= ~(1 << node);
            places[node].rest();
        }

        private void sendToAll(int kind, int from, int set) {
            for (int v = 0; v < sets.count; v++) {
                if (has(set, v)) {
                    post.put(kind, from, v, places[from].stamp);
                }
            }
        }

        void breakNode(int node) {
            broken |= 1 << node;
            renewQuorums();
            places[node].forgetAll();
            for (int v = 0; v < sets.count; v++) {
                post.drop(node, v);
                post.drop(v, node);
            }
            for (int v = 0; v < sets.count; v++) {
                forget(node, v);
            }
            for (int v = 0; v < sets.count; v++) {
                if (has(places[v].inUse, node)) {
                    doWithout(node, v);
                }
            }
        }

        void mendNode(int node) {
            broken &= ~(1 << node);
            renewQuorums();
        }

        private void forget(int node, int arbiter) {
            Place place = places[arbiter];
            place.waiters &= ~(1 << node);
            if (place.granted == node) {
                place.forgetGranted();
                grantFirst(arbiter);
            }
        }

        private void doWithout(int lost, int node) {
            if (has(inside, node)) {
                places[node].inUse &= ~(1 << lost);
                return;
            }
            sendToAll(RELEASE, node, places[node].inUse & ~broken);
            beIdle(node);
            if (mayAsk(node)) {
                startAsking(node);
            }
        }

        int bringFirst(int from, int to) {
            int letter = sets.isNode(from) && sets.isNode(to) ? post.takeFirst(from, to) : NONE;
            if (letter == NONE) {
                return NONE;
            }
            int kind = Post.kindOf(letter);
            int stamp = Post.stampOf(letter);
            noteBringing(kind, from, to, stamp);
            places[to].clock = Math.max(places[to].clock, stamp);
            switch (kind) {
                case REQUEST: hearRequest(from, to, stamp); break;
                case GRANT: hearGrant(from, to, stamp); break;
                case FAIL: hearFail(from, to, stamp); break;
                case INQUIRE: hearInquire(from, to, stamp); break;
                case YIELD: hearYield(from, to, stamp); break;
                default: hearRelease(from, to, stamp); break;
            }
            return kind;
        }

        private void noteBringing(int kind, int from, int to, int stamp) {
            bringings++;
            bringingsHeld.add(kind, from, to, stamp);
            places[to].handled++;
            places[to].lettersSince++;
            if (from != to) {
                places[from].lettersSince++;
            }
        }

        private void hearRequest(int asker, int arbiter, int stamp) {
            Place place = places[arbiter];
            int formerFirst = place.firstWaiter();
            place.letWait(asker, stamp);
            if (place.granted == NONE) {
                grantFirst(arbiter);
                return;
            }
            if (place.firstWaiter() != asker || !place.isAheadOfGranted(asker)) {
                post.put(FAIL, arbiter, asker, stamp);
                return;
            }
            if (formerFirst != NONE && place.isAheadOfGranted(formerFirst)) {
                post.put(FAIL, arbiter, formerFirst, place.waitStamps[formerFirst]);
            }
            if (!place.inquired) {
                place.inquired = true;
                post.put(INQUIRE, arbiter, place.granted, place.grantedStamp);
            }
        }

        private void hearGrant(int arbiter, int asker, int stamp) {
            Place place = places[asker];
            if (!isAskingBy(asker, stamp)) {
                return;
            }
            place.votes |= 1 << arbiter;
            place.doubts &= ~(1 << arbiter);
            place.fails &= ~(1 << arbiter);
            if (place.votes == place.inUse) {
                enter(asker);
            }
        }

        private void hearFail(int arbiter, int asker, int stamp) {
            Place place = places[asker];
            if (!isAskingBy(asker, stamp)) {
                return;
            }
            place.fails |= 1 << arbiter;
            sendToAll(YIELD, asker, place.doubts);
            place.votes &= ~place.doubts;
            place.fails |= place.doubts;
            place.doubts = 0;
        }

        private void hearInquire(int arbiter, int asker, int stamp) {
            Place place = places[asker];
            if (!isAskingBy(asker, stamp) || !has(place.votes, arbiter)) {
                return;
            }
            if (place.fails == 0) {
                place.doubts |= 1 << arbiter;
                return;
            }
            post.put(YIELD, asker, arbiter, stamp);
            place.votes &= ~(1 << arbiter);
            place.fails |= 1 << arbiter;
        }

        private void hearYield(int asker, int arbiter, int stamp) {
            Place place = places[arbiter];
            if (place.isGrantedBy(asker, stamp)) {
                place.letWait(asker, stamp);
                grantFirst(arbiter);
            }
        }

        private void hearRelease(int asker, int arbiter, int stamp) {
            Place place = places[arbiter];
            if (place.isGrantedBy(asker, stamp)) {
                place.forgetGranted();
                grantFirst(arbiter);
            } else if (place.isWaitingBy(asker, stamp)) {
                place.waiters &= ~(1 << asker);
            }
        }

        private boolean isAskingBy(int node, int stamp) {
            return has(asking, node) && places[node].stamp == stamp;
        }

        private void grantFirst(int arbiter) {
            Place place = places[arbiter];
            int chosen = place.firstWaiter();
            if (chosen == NONE) {
                return;
            }
            place.waiters &= ~(1 << chosen);
            place.granted = chosen;
            place.grantedStamp = place.waitStamps[chosen];
            place.inquired = false;
            post.put(GRANT, arbiter, chosen, place.grantedStamp);
        }

        private void enter(int node) {
            Place place = places[node];
            place.doubts = 0;
            asking &= ~(1 << node);
            inside |= 1 << node;
            place.since = post.now;
            place.entries++;
            entries++;
            if (Integer.bitCount(inside) >= 2) {
                together++;
            }
            if (isSomeoneAheadOf(node)) {
                overtaken++;
            }
            int waited = bringings - place.askedAt;
            mostWaited = Math.max(mostWaited, waited);
            mostLetters = Math.max(mostLetters, place.lettersSince);
            entriesHeld.add(node, place.stamp, waited, place.lettersSince);
        }

        private boolean isSomeoneAheadOf(int node) {
            for (int v = 0; v < sets.count; v++) {
                if (has(asking, v) && isAhead(places[v].stamp, v, places[node].stamp, node)) {
                    return true;
                }
            }
            return false;
        }

        int awaitedBy(int node) {
            Place place = places[node];
            int set = 0;
            for (int v = 0; v < sets.count; v++) {
                if (has(place.inUse & ~place.votes, v) && places[v].granted != NONE) {
                    set |= 1 << places[v].granted;
                }
            }
            return set & ~(1 << node);
        }

        int round() {
            for (int v = 0; v < sets.count; v++) {
                awaited[v] = has(asking, v) ? awaitedBy(v) : 0;
            }
            for (int through = 0; through < sets.count; through++) {
                for (int v = 0; v < sets.count; v++) {
                    if (has(awaited[v], through)) {
                        awaited[v] |= awaited[through];
                    }
                }
            }
            int set = 0;
            for (int v = 0; v < sets.count; v++) {
                set |= awaited[v] & 1 << v;
            }
            return set;
        }

        int countMoves() {
            int moves = Integer.bitCount(inside);
            for (int from = 0; from < sets.count; from++) {
                moves += Integer.bitCount(post.busy[from]);
            }
            return moves;
        }

        void makeMove(int which) {
            int left = which;
            for (int from = 0; from < sets.count; from++) {
                int here = Integer.bitCount(post.busy[from]);
                if (left < here) {
                    bringFirst(from, memberAt(post.busy[from], left));
                    return;
                }
                left -= here;
            }
            if (left < Integer.bitCount(inside)) {
                finish(memberAt(inside, left));
            }
        }

        boolean moveByDraw() {
            int moves = countMoves();
            if (moves < 1) {
                return false;
            }
            drawn = (drawn * 1103515245L + 12345L) % 2147483648L;
            makeMove((int) (drawn / 65536L % moves));
            return true;
        }
    }

    /** A run by a clock. */
    private static final class Clockwork {
        final int[] ways = new int[MOST_NODES * MOST_NODES];
        int end;
        int lastEntry;
        int emptyTimes;

        void clear() {
            Arrays.fill(ways, 1);
        }

        void run(Hall hall, int hold) {
            end = NOT_OVER;
            lastEntry = NONE;
            emptyTimes = 0;
            for (int time = 0; time < NOT_OVER && end == NOT_OVER; time++) {
                int before = hall.entries;
                hall.post.now = time;
                leaveWhoCameBy(hall, time - hold);
                // What is due now by a longer way went sooner.
                for (int way = Math.min(LONGEST_WAY, time); way >= 1; way--) {
                    bringDue(hall, way, time - way);
                }
                lastEntry = hall.entries > before ? time : lastEntry;
                emptyTimes += hall.inside == 0 ? 1 : 0;
                if (hall.inside == 0 && hall.post.total == 0) {
                    end = time;
                }
            }
        }

        private void leaveWhoCameBy(Hall hall, int time) {
            for (int v = 0; v < hall.sets.count; v++) {
                if (has(hall.inside, v) && hall.places[v].since <= time) {
                    hall.finish(v);
                }
            }
        }

        // What is sent meanwhile goes now, so it is never among what went before.
        private void bringDue(Hall hall, int way, int went) {
            for (int from = 0; from < hall.sets.count; from++) {
                for (int to = 0; to < hall.sets.count && hall.post.busy[from] != 0; to++) {
                    boolean isSoFar = ways[from * MOST_NODES + to] == way;
                    for (int k = isSoFar ? hall.post.countOn(from, to) : 0; k > 0; k--) {
                        if (hall.post.hasGoneBy(from, to, went)) {
                            hall.bringFirst(from, to);
                        }
                    }
                }
            }
        }
    }

    /** All orders of moves, as far as so many states. */
    private static final class Search {
        final Hall hall;
        final int[] starts = new int[MOST_STATES + 1];
        final int[] depths = new int[MOST_STATES];
        final int[] insides = new int[MOST_STATES];
        final int[] stampsOfNow = new int[MOST_NODES];
        int[] cells = new int[1024];
        int end;
        int reading;
        int most;
        int askers;
        int met;
        int together;
        int stuck;
        int mostLetters;
        int deepest;
        boolean someLeft;

        Search(Hall hall) {
            this.hall = hall;
        }

        void run(Hall from, int whoMayAsk, int states) {
            begin(from, whoMayAsk, states);
            meet(0);
            for (int i = 0; i < met && !someLeft; i++) {
                recall(i);
                int moves = hall.countMoves();
                int asks = asksNow();
                int all = moves + Integer.bitCount(asks);
                for (int m = 0; m < all && !someLeft; m++) {
                    recall(i);
                    if (m < moves) {
                        hall.makeMove(m);
                    } else {
                        hall.startAsking(memberAt(asks, m - moves));
                    }
                    meet(depths[i] + 1);
                }
            }
        }

        private void begin(Hall from, int whoMayAsk, int states) {
            hall.copyFrom(from);
            for (int v = 0; v < MOST_NODES; v++) {
                stampsOfNow[v] = from.places[v].stamp;
            }
            askers = whoMayAsk;
            most = Math.min(states, MOST_STATES);
            met = 0;
            together = 0;
            stuck = 0;
            mostLetters = 0;
            deepest = 0;
            someLeft = false;
        }

        private int asksNow() {
            int set = 0;
            for (int v = 0; v < hall.sets.count; v++) {
                boolean asBefore = hall.places[v].stamp == stampsOfNow[v];
                if (has(askers, v) && asBefore && hall.mayAsk(v)) {
                    set |= 1 << v;
                }
            }
            return set;
        }

        private void meet(int depth) {
            save();
            if (isKnown()) {
                return;
            }
            if (met >= most) {
                someLeft = true;
                return;
            }
            depths[met] = depth;
            insides[met] = hall.inside;
            deepest = Math.max(deepest, depth);
            mostLetters = Math.max(mostLetters, hall.post.total);
            together += Integer.bitCount(hall.inside) >= 2 ? 1 : 0;
            boolean isStuck = hall.asking != 0 && hall.countMoves() == 0 && asksNow() == 0;
            stuck += isStuck ? 1 : 0;
            met++;
            starts[met] = end;
        }

        private boolean isKnown() {
            for (int i = 0; i < met; i++) {
                if (isLike(i)) {
                    return true;
                }
            }
            return false;
        }

        private boolean isLike(int i) {
            int size = end - starts[met];
            if (starts[i + 1] - starts[i] != size) {
                return false;
            }
            for (int k = 0; k < size; k++) {
                if (cells[starts[i] + k] != cells[starts[met] + k]) {
                    return false;
                }
            }
            return true;
        }

        int tell(int what) {
            switch (what) {
                case 0: return met;
                case 1: return together;
                case 2: return stuck;
                case 3: return mostLetters;
                case 4: return someLeft ? 0 : 1;
                case 5: return deepest;
                default: return NONE;
            }
        }

        int soonestInside(int node) {
            for (int i = 0; i < met; i++) {
                if (has(insides[i], node)) {
                    return depths[i];
                }
            }
            return NONE;
        }

        /** Behind all states that were met: what the hall is like now. */
        private void save() {
            end = starts[met];
            push(hall.inside);
            push(hall.asking);
            for (int v = 0; v < hall.sets.count; v++) {
                savePlace(hall.places[v]);
            }
            for (int from = 0; from < hall.sets.count; from++) {
                push(hall.post.busy[from]);
                for (int to = 0; to < hall.sets.count; to++) {
                    if (has(hall.post.busy[from], to)) {
                        saveLane(hall.post, from * MOST_NODES + to);
                    }
                }
            }
        }

        private void savePlace(Place place) {
            push(place.clock);
            push(place.stamp);
            push(place.inUse);
            push(place.votes);
            push(place.doubts);
            push(place.fails);
            push(place.granted);
            push(place.grantedStamp);
            push(place.inquired ? 1 : 0);
            push(place.waiters);
            for (int v = 0; v < MOST_NODES; v++) {
                if (has(place.waiters, v)) {
                    push(place.waitStamps[v]);
                }
            }
        }

        private void saveLane(Post post, int lane) {
            push(post.many[lane]);
            int cell = post.first[lane];
            for (int k = 0; k < post.many[lane]; k++) {
                push(post.letters[cell]);
                cell = post.next[cell];
            }
        }

        private void push(int value) {
            if (end == cells.length) {
                cells = Arrays.copyOf(cells, end * 2);
            }
            cells[end] = value;
            end++;
        }

        private void recall(int i) {
            reading = starts[i];
            hall.inside = pull();
            hall.asking = pull();
            for (int v = 0; v < hall.sets.count; v++) {
                recallPlace(hall.places[v]);
            }
            hall.post.clearLanes();
            for (int from = 0; from < hall.sets.count; from++) {
                int busy = pull();
                for (int to = 0; to < hall.sets.count; to++) {
                    if (has(busy, to)) {
                        recallLane(from, to);
                    }
                }
            }
        }

        private void recallPlace(Place place) {
            place.clock = pull();
            place.stamp = pull();
            place.inUse = pull();
            place.votes = pull();
            place.doubts = pull();
            place.fails = pull();
            place.granted = pull();
            place.grantedStamp = pull();
            place.inquired = pull() != 0;
            place.waiters = pull();
            for (int v = 0; v < MOST_NODES; v++) {
                if (has(place.waiters, v)) {
                    place.waitStamps[v] = pull();
                }
            }
        }

        private void recallLane(int from, int to) {
            for (int k = pull(); k > 0; k--) {
                int letter = pull();
                hall.post.put(Post.kindOf(letter), from, to, Post.stampOf(letter));
            }
        }

        private int pull() {
            int value = reading < end ? cells[reading] : 0;
            reading++;
            return value;
        }
    }
}
