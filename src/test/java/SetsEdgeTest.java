/**
 * The edges that Terms I and promises 1 to 22 name: what is least, greatest, empty, full, round, none or refused.
 * Each test bears the words it holds the program to.
 */
final class SetsEdgeTest {
    private static final int MIN = Integer.MIN_VALUE;
    private static final int MAX = Integer.MAX_VALUE;

    private SetsEdgeTest() {
    }

    public static void main(String[] args) {
        nodesAtFirst();
        manyNodes();
        gridOfEach();
        planeRound();
        fillingOfEach();
        majorityOfEach();
        wheelOfEach();
        treeOfEach();
        withinOfEach();
        withinUpToSixteen();
        aTreeNoMore();
        madeAnew();
        waysOfAllAnew();
        quorumNowOfGrid();
        quorumNowOfTree();
        quorumWhileIdle();
        refusedMakers();
        refusedTellers();
        basesByHand();
        meetings();
        apartOnes();
        loads();
        stopsAside();
        weakestOnes();
        needlessOnes();
        chancesAtTheEnds();
        chancesCut();
        chancesOfNodes();
        sizesOfBases();
        pivotalOnes();
        fairOnes();
        betterOnes();
        Check.end("SetsEdgeTest");
    }

    private static void bases(QuorumGate x, String of, int... want) {
        Check.due(of + ": how many nodes", x.is(0), want.length);
        for (int v = 0; v < want.length; v++) {
            Check.due(of + ": base of " + v, x.quorum(v, 0), want[v]);
        }
    }

    private static void nodesAtFirst() {
        QuorumGate x = new QuorumGate();
        bases(x, "at first 4, a GRID of 2", 7, 11, 13, 14);
        x.majority(7);
        x.ask(0);
        QuorumGate y = new QuorumGate();
        bases(y, "each object by itself", 7, 11, 13, 14);
        Check.due("each object by itself: letters", y.is(1), 0);
        Check.due("each object by itself: nodes", x.is(0), 7);
    }

    /** NODES 0 .. many less 1 (2 .. 16). */
    private static void manyNodes() {
        for (int n = 2; n <= 16; n++) {
            QuorumGate x = new QuorumGate();
            x.majority(n);
            Check.due("how many", x.is(0), n);
            Check.isTrue("the last of " + n, x.quorum(n - 1, 0) > 0);
            Check.due("no more than " + n, x.quorum(n, 0), -1);
            Check.due("none below 0", x.quorum(-1, 0), -1);
            Check.due("the last of " + n + " asks", x.ask(n - 1), 1);
            Check.due("nobody behind it does", x.ask(n), -1);
        }
        QuorumGate x = new QuorumGate();
        x.grid(4);
        x.majority(2);
        for (int v = 2; v < 16; v++) {
            Check.due("fewer than ahead", x.quorum(v, 0), -1);
            Check.due("fewer than ahead", x.ask(v), -1);
        }
    }

    /** GRID of k (2 .. 4): k * k NODES, in rows of k: its row and its column. */
    private static void gridOfEach() {
        QuorumGate x = new QuorumGate();
        for (int k = 2; k <= 4; k++) {
            Check.due("k * k NODES", x.grid(k), k * k);
            for (int v = 0; v < k * k; v++) {
                int want = 0;
                for (int u = 0; u < k * k; u++) {
                    want += u / k == v / k || u % k == v % k ? 1 << u : 0;
                }
                Check.due("grid(" + k + "), " + v, x.quorum(v, 0), want);
            }
        }
    }

    /** PLANE: itself and those 1, 3 (of 3: 1, 3, 9) on (modulo how many there are). */
    private static void planeRound() {
        QuorumGate x = new QuorumGate();
        Check.due("7 NODES", x.plane(2), 7);
        for (int v = 0; v < 7; v++) {
            Check.due("plane(2), " + v, x.quorum(v, 0), 1 << v | 1 << (v + 1) % 7 | 1 << (v + 3) % 7);
        }
        Check.due("13 NODES", x.plane(3), 13);
        for (int v = 0; v < 13; v++) {
            int want = 1 << v | 1 << (v + 1) % 13 | 1 << (v + 3) % 13 | 1 << (v + 9) % 13;
            Check.due("plane(3), " + v, x.quorum(v, 0), want);
        }
    }

    /** The GRID of the least k with k * k no less than n, each place from n on standing for its number mod n. */
    private static void fillingOfEach() {
        int[] k = {0, 0, 2, 2, 2, 3, 3, 3, 3, 3, 4, 4, 4, 4, 4, 4, 4};
        QuorumGate x = new QuorumGate();
        for (int n = 2; n <= 16; n++) {
            Check.due("filled(" + n + ")", x.filled(n), n);
            for (int v = 0; v < n; v++) {
                int want = 0;
                for (int place = 0; place < k[n] * k[n]; place++) {
                    boolean meets = place / k[n] == v / k[n] || place % k[n] == v % k[n];
                    want |= meets ? 1 << (place < n ? place : place % n) : 0;
                }
                Check.due("filled(" + n + "), " + v, x.quorum(v, 0), want);
            }
        }
        // Of 2 in rows of 2 the places 2 and 3 are 0 and 1 again.
        x.filled(2);
        bases(x, "each place from n on", 3, 3);
        // Of 10 in rows of 4 the places 10 .. 15 are 0 .. 5.
        x.filled(10);
        Check.due("row 8, 9, 0, 1; column 0, 4, 8, 2", x.quorum(8, 0), 1 + 2 + 4 + 16 + 256 + 512);
    }

    /** MAJORITY of n (2 .. 16): itself and the n / 2 (downward) behind it, round. */
    private static void majorityOfEach() {
        QuorumGate x = new QuorumGate();
        for (int n = 2; n <= 16; n++) {
            Check.due("majority(" + n + ")", x.majority(n), n);
            for (int v = 0; v < n; v++) {
                int want = 0;
                for (int u = 0; u < n; u++) {
                    int behind = u >= v ? u - v : u - v + n;
                    want |= behind <= n / 2 ? 1 << u : 0;
                }
                Check.due("majority(" + n + "), " + v, x.quorum(v, 0), want);
            }
        }
    }

    /** WHEEL of n (3 .. 16): 0 has all others, each other one itself and 0. */
    private static void wheelOfEach() {
        QuorumGate x = new QuorumGate();
        for (int n = 3; n <= 16; n++) {
            Check.due("wheel(" + n + ")", x.wheel(n), n);
            Check.due("wheel(" + n + "): 0 has all others", x.quorum(0, 0), (1 << n) - 2);
            for (int v = 1; v < n; v++) {
                Check.due("wheel(" + n + "): each other one itself and 0", x.quorum(v, 0), 1 + (1 << v));
            }
        }
    }

    /** TREE of h (2 .. 4): all from 0 down to it, and on from it down by the first ones below. */
    private static void treeOfEach() {
        QuorumGate x = new QuorumGate();
        for (int h = 2; h <= 4; h++) {
            int n = (1 << h) - 1;
            Check.due("tree(" + h + ")", x.tree(h), n);
            for (int v = 0; v < n; v++) {
                int want = 0;
                for (int up = v + 1; up >= 1; up /= 2) {
                    want |= 1 << up - 1;
                }
                for (int down = v + 1; down <= n; down *= 2) {
                    want |= 1 << down - 1;
                }
                Check.due("tree(" + h + "), " + v, x.quorum(v, 0), want);
                Check.due("as many as it is high", Integer.bitCount(x.quorum(v, 0)), h);
            }
        }
    }

    private static QuorumGate sample(int which) {
        QuorumGate x = new QuorumGate();
        switch (which) {
            case 0: break;
            case 1: x.wheel(5); break;
            case 2: x.tree(3); break;
            case 3: x.filled(9); break;
            case 4: x.majority(2); break;
            default: x.majority(3); x.base(0, 4); x.base(1, 5); x.base(2, 3); break;
        }
        return x;
    }

    /** WITHIN, for each NODE and each m of some choices: those behind v one number less, the new ones behind them. */
    private static void withinOfEach() {
        for (int which = 0; which <= 5; which++) {
            int n = sample(which).is(0);
            for (int node = 0; node < n; node++) {
                for (int m = 2; m <= 8; m++) {
                    QuorumGate x = sample(which);
                    int[] old = new int[n];
                    for (int v = 0; v < n; v++) {
                        old[v] = x.quorum(v, 0);
                    }
                    String of = "within(" + node + ", " + m + ") of " + which;
                    Check.due(of, x.within(node, m), n - 1 + m);
                    Check.due(of + ": how many", x.is(0), n - 1 + m);
                    for (int v = 0; v < n; v++) {
                        if (v != node) {
                            // An old one by its old number.
                            int place = v < node ? v : v - 1;
                            Check.due(of + ": old " + v, x.quorum(place, 0), put(old[v], node, v % m, m, n));
                        }
                    }
                    for (int j = 0; j < m; j++) {
                        Check.due(of + ": new " + j, x.quorum(n - 1 + j, 0), put(old[node], node, j, m, n));
                    }
                }
            }
        }
    }

    /** In place of a node a new one's majority. */
    private static int put(int base, int node, int newOne, int m, int n) {
        int want = 0;
        for (int u = 0; u < n; u++) {
            if ((base >> u & 1) == 0) {
                continue;
            }
            if (u != node) {
                want |= 1 << (u < node ? u : u - 1);
            } else {
                for (int behind = 0; behind <= m / 2; behind++) {
                    want |= 1 << n - 1 + (newOne + behind) % m;
                }
            }
        }
        return want;
    }

    /** (2 .. 8; no more than 16 NODES then). */
    private static void withinUpToSixteen() {
        for (int n = 2; n <= 16; n++) {
            for (int m = 0; m <= 10; m++) {
                QuorumGate x = new QuorumGate();
                x.majority(n);
                boolean can = m >= 2 && m <= 8 && n - 1 + m <= 16;
                Check.due("within(0, " + m + ") of " + n, x.within(0, m), can ? n - 1 + m : -1);
                Check.due("nodes behind it", x.is(0), can ? n - 1 + m : n);
            }
        }
    }

    /** (A TREE is none any more): then a BASE of a NODE is all that there is. */
    private static void aTreeNoMore() {
        QuorumGate x = new QuorumGate();
        x.tree(2);
        Check.due("a TREE: both below 0", x.stops(1), false);
        x.base(2, 5);
        bases(x, "told what it was", 3, 3, 5);
        Check.due("by hand: a TREE is none any more", x.stops(1), true);
        Check.due("by hand: weakest", x.weakest(1), 1);
        Check.due("by hand: chance", x.chance(5), 375000);
        x.tree(2);
        Check.due("a TREE again", x.stops(1), false);
        x.within(2, 2);
        // The new ones 2 and 3 have 0 and both of them.
        bases(x, "within", 3, 3, 13, 13);
        Check.due("within: a TREE is none any more", x.stops(1), true);
        Check.due("within: weakest", x.weakest(1), 1);
        for (int how = 0; how < 5; how++) {
            x.tree(2);
            switch (how) {
                case 0: x.grid(2); break;
                case 1: x.filled(3); break;
                case 2: x.majority(4); break;
                case 3: x.wheel(3); break;
                default: x.plane(2); break;
            }
            x.breakDown(0);
            // In a TREE it would be what is WHOLE without 0.
            int whole = how == 0 ? 14 : how == 1 ? 0 : how == 2 ? 14 : how == 3 ? 6 : 22;
            Check.due("others are no TREE: " + how, x.quorum(0, 1), whole);
        }
    }

    /** Whenever NODES are made anew all else is as at first: by each way of making them, each part. */
    private static void madeAnew() {
        for (int how = 0; how < 8; how++) {
            QuorumGate x = stirred();
            String of = "made anew by " + how + ": ";
            make(x, how);
            QuorumGate y = new QuorumGate();
            y.tree(2);
            make(y, how);
            Check.due(of + "nobody asks", x.is(3), 0);
            Check.due(of + "nobody is inside", x.is(2), 0);
            Check.due(of + "no letters", x.is(1), 0);
            Check.due(of + "nothing broken", x.is(4), 0);
            Check.due(of + "THE BOOK empty", x.book(-1, 0), 0);
            Check.due(of + "THE TRACE empty", x.trace(-1, 0), 0);
            Check.due(of + "nothing sent", x.sent(6), 0);
            Check.due(of + "no entries", x.is(5) + x.mean() + x.byRoot(), 0);
            Check.due(of + "no BRINGINGS", x.is(6) + x.is(8) + x.is(9), 0);
            for (int v = 0; v < x.is(0); v++) {
                Check.due(of + "all CLOCKS 0", x.node(v, 1), 0);
                Check.due(of + "it never asked", x.node(v, 2), 0);
                Check.due(of + "handled", x.handled(v), 0);
                Check.due(of + "times inside", x.node(v, 7), 0);
                Check.due(of + "granted", x.arbiter(v, 0), -1);
                Check.due(of + "waiting", x.arbiter(v, 3), 0);
            }
            Check.isTrue(of + "all as of a new one", Told.of(x).equals(Told.of(y)));
            x.ask(1);
            y.ask(1);
            Check.isTrue(of + "and on from there", Told.of(x).equals(Told.of(y)));
            Check.due(of + "goOn", x.goOn(3, 500), y.goOn(3, 500));
            Check.isTrue(of + "and behind it", Told.of(x).equals(Told.of(y)));
        }
    }

    private static int make(QuorumGate x, int how) {
        switch (how) {
            case 0: return x.grid(2);
            case 1: return x.plane(2);
            case 2: return x.filled(3);
            case 3: return x.majority(3);
            case 4: return x.wheel(3);
            case 5: return x.tree(2);
            case 6: return x.within(0, 2);
            default: return x.base(0, 3);
        }
    }

    /** A TREE of 2 with entries, somebody asking, somebody waiting, letters, something broken, ways. */
    private static QuorumGate stirred() {
        QuorumGate x = new QuorumGate();
        x.tree(2);
        x.ask(0);
        x.goOn(1, 500);
        x.ask(2);
        x.goOn(1, 3);
        x.breakDown(1);
        x.ask(0);
        x.bring(0, 0);
        x.bring(0, 0);
        x.bring(0, 2);
        x.delay(0, 0, 9);
        x.delay(0, 2, 5);
        x.delay(2, 0, 7);
        Check.isTrue("stirred: entries", x.is(5) > 0);
        Check.isTrue("stirred: somebody asks", x.is(3) > 0);
        Check.isTrue("stirred: letters", x.is(1) > 0);
        Check.due("stirred: broken", x.is(4), 2);
        return x;
    }

    /** WAYS 1: of all pairs, from the first to the last. */
    private static void waysOfAllAnew() {
        for (int how = 0; how < 2; how++) {
            QuorumGate x = new QuorumGate();
            x.majority(16);
            for (int from = 0; from < 16; from++) {
                for (int to = 0; to < 16; to++) {
                    x.delay(from, to, 9);
                }
            }
            x.ask(15);
            Check.due("all by 9", x.timed(1, 15, 3), 18);
            if (how == 0) {
                x.majority(16);
            } else {
                x.base(3, 1);
            }
            for (int v = 0; v < 16; v++) {
                x.ask(v);
                Check.due("WAYS 1: " + v, x.timed(1, v, 3), 2);
                x.withdraw(v);
                x.goOn(0, 500);
            }
        }
    }

    /** Its BASE, if nothing of it is BROKEN; else the BASE of the least NODE for which that is so; none. */
    private static void quorumNowOfGrid() {
        int[] base = {7, 11, 13, 14};
        for (int broken = 0; broken < 16; broken++) {
            QuorumGate x = new QuorumGate();
            int least = 0;
            for (int v = 3; v >= 0; v--) {
                least = (base[v] & broken) == 0 ? base[v] : least;
            }
            for (int v = 0; v < 4; v++) {
                if ((broken >> v & 1) != 0) {
                    Check.due("break", x.breakDown(v), true);
                }
            }
            for (int v = 0; v < 4; v++) {
                int want = (base[v] & broken) == 0 ? base[v] : least;
                Check.due("broken " + broken + ": QUORUM of " + v, x.quorum(v, 1), want);
                Check.due("broken " + broken + ": BASE of " + v, x.quorum(v, 0), base[v]);
                Check.due("broken " + broken + ": stops", x.stops(broken), least == 0);
                boolean can = want != 0 && (broken >> v & 1) == 0;
                Check.due("broken " + broken + ": " + v + " asks", x.ask(v), can ? 1 : -1);
                Check.due("broken " + broken + ": IN USE of " + v, x.quorum(v, 2), can ? want : 0);
            }
        }
    }

    /** In a TREE else: WHOLE of 0 (none: none). */
    private static void quorumNowOfTree() {
        int[][] want = {
            {3, 3, 5}, // nothing broken
            {6, 6, 6}, // 0: both below it together
            {5, 5, 5}, // 1: 0 and the first one below it that has one
            {0, 0, 0}, // 0 and 1: one below it has none
            {3, 3, 3}, // 2
            {0, 0, 0}, // 0 and 2
            {0, 0, 0}, // 1 and 2: none below it
            {0, 0, 0}, // all
        };
        for (int broken = 0; broken < 8; broken++) {
            QuorumGate x = new QuorumGate();
            x.tree(2);
            for (int v = 0; v < 3; v++) {
                if ((broken >> v & 1) != 0) {
                    x.breakDown(v);
                }
            }
            for (int v = 0; v < 3; v++) {
                Check.due("tree, broken " + broken + ": QUORUM of " + v, x.quorum(v, 1), want[broken][v]);
            }
            Check.due("tree, broken " + broken + ": stops", x.stops(broken), want[broken][0] == 0);
        }
        QuorumGate x = new QuorumGate();
        x.tree(4);
        for (int v = 0; v < 7; v++) {
            x.breakDown(v);
        }
        Check.due("all inner ones broken: the leaves", x.quorum(7, 1), 0x7f80);
        x.breakDown(14);
        Check.due("a leaf, too: none", x.quorum(7, 1), 0);
        x.tree(4);
        for (int v = 7; v < 14; v++) {
            x.breakDown(v);
        }
        Check.due("down to the last leaf", x.quorum(0, 1), 1 + 4 + 64 + (1 << 14));
        x.breakDown(6);
        Check.due("none below what is below", x.quorum(0, 1), 0);
    }

    /** IN USE (2; 0 while IDLE). */
    private static void quorumWhileIdle() {
        QuorumGate x = new QuorumGate();
        Check.due("never asked", x.quorum(0, 2), 0);
        x.ask(0);
        Check.due("asking", x.quorum(0, 2), 7);
        x.goOn(0, 6);
        Check.due("inside", x.quorum(0, 2), 7);
        x.leave(0);
        Check.due("left", x.quorum(0, 2), 0);
        x.ask(3);
        x.withdraw(3);
        Check.due("withdrawn", x.quorum(3, 2), 0);
    }

    private static void refused(String call, Gates.Call c, long due) {
        Gates.unchanged(call, stirred(), c, due);
    }

    /** NONE for others: and nothing is made anew, a TREE is one still. */
    private static void refusedMakers() {
        for (int k : new int[] {MIN, -4, -1, 0, 1, 5, 9, 16, MAX}) {
            refused("grid(" + k + ")", x -> x.grid(k), -1);
        }
        for (int q : new int[] {MIN, -2, -1, 0, 1, 4, 5, 7, 13, MAX}) {
            refused("plane(" + q + ")", x -> x.plane(q), -1);
        }
        for (int n : new int[] {MIN, -16, -2, -1, 0, 1, 17, 18, 25, 32, MAX}) {
            refused("filled(" + n + ")", x -> x.filled(n), -1);
            refused("majority(" + n + ")", x -> x.majority(n), -1);
            refused("wheel(" + n + ")", x -> x.wheel(n), -1);
        }
        refused("wheel(2)", x -> x.wheel(2), -1);
        for (int h : new int[] {MIN, -2, -1, 0, 1, 5, 6, 32, MAX}) {
            refused("tree(" + h + ")", x -> x.tree(h), -1);
        }
        for (int v : new int[] {MIN, -1, 3, 4, 16, MAX}) {
            refused("within(" + v + ", 2)", x -> x.within(v, 2), -1);
            refused("base(" + v + ", 1)", x -> x.base(v, 1), -1);
        }
        for (int m : new int[] {MIN, -2, -1, 0, 1, 9, 10, 16, MAX}) {
            refused("within(0, " + m + ")", x -> x.within(0, m), -1);
        }
        for (int set : new int[] {MIN, -8, -1, 0, 8, 9, 15, 1 << 16, MAX}) {
            refused("base(0, " + set + ")", x -> x.base(0, set), -1);
        }
    }

    private static void refusedTellers() {
        for (int v : new int[] {MIN, -2, -1, 3, 4, 16, 32, MAX}) {
            for (int what = 0; what <= 2; what++) {
                int w = what;
                refused("quorum(" + v + ", " + what + ")", x -> x.quorum(v, w), -1);
            }
            refused("meeting(" + v + ", 0)", x -> x.meeting(v, 0), -1);
            refused("meeting(0, " + v + ")", x -> x.meeting(0, v), -1);
            refused("meeting(" + v + ", " + v + ")", x -> x.meeting(v, v), -1);
            refused("load(" + v + ")", x -> x.load(v), -1);
            refused("chanceOf(" + v + ", 0)", x -> x.chanceOf(v, 0), -1);
            refused("pivotal(" + v + ")", x -> x.pivotal(v), -1);
        }
        for (int what : new int[] {MIN, -2, -1, 3, 4, MAX}) {
            refused("quorum(0, " + what + ")", x -> x.quorum(0, what), -1);
            refused("sizes(" + what + ")", x -> x.sizes(what), -1);
        }
        for (int what : new int[] {MIN, -2, -1, 2, 3, MAX}) {
            refused("weakest(" + what + ")", x -> x.weakest(what), -1);
        }
        for (int odds : new int[] {MIN, -10, -1, 11, 12, 100, MAX}) {
            refused("chance(" + odds + ")", x -> x.chance(odds), -1);
            refused("chanceOf(0, " + odds + ")", x -> x.chanceOf(0, odds), -1);
        }
        refused("apart()", x -> x.apart(), 0);
        refused("stops(3)", x -> x.stops(3) ? 1 : 0, 1);
        refused("weakest(1)", x -> x.weakest(1), 3);
        refused("needless()", x -> x.needless(), 1);
        refused("fair()", x -> x.fair() ? 1 : 0, 0);
        refused("better()", x -> x.better(), 1);
    }

    /** A set of NODES that isn't empty: how many pairs of BASES don't meet. */
    private static void basesByHand() {
        for (int n = 2; n <= 16; n++) {
            QuorumGate x = new QuorumGate();
            x.majority(n);
            int all = (1 << n) - 1;
            Check.due("empty", x.base(0, 0), -1);
            Check.due("one more than all of " + n, x.base(0, all + 1), -1);
            Check.due("all of " + n + " and one more", x.base(n - 1, 2 * all + 1), -1);
            Check.due("none was told", Integer.bitCount(x.quorum(0, 0)), n / 2 + 1);
            Check.due("none was told", Integer.bitCount(x.quorum(n - 1, 0)), n / 2 + 1);
            Check.due("all of " + n, x.base(0, all), 0);
            Check.due("all of " + n, x.quorum(0, 0), all);
            // The last one alone is in all bases that reach it: those of 0 and of the n / 2 ahead of it and itself.
            int reached = 0;
            for (int v = 0; v < n; v++) {
                reached += x.quorum(v, 0) >> n - 1 & 1;
            }
            Check.due("the last of " + n + " alone", x.base(0, 1 << n - 1), n - reached);
            Check.due("the last of " + n + " alone", x.quorum(0, 0), 1 << n - 1);
        }
    }

    /** The least NODE in which BASES of two meet. NONE: none. */
    private static void meetings() {
        QuorumGate x = Gates.alone(16);
        for (int v = 0; v < 16; v++) {
            Check.due("of one with itself: " + v, x.meeting(v, v), v);
            Check.due("none: " + v, x.meeting(v, (v + 1) % 16), -1);
        }
        x.base(0, 0xc000);
        x.base(1, 0xe000);
        Check.due("the least", x.meeting(0, 1), 14);
        Check.due("the last", x.meeting(0, 15), 15);
        x.base(2, 0xffff);
        Check.due("the first", x.meeting(2, 2), 0);
        x.breakDown(14);
        Check.due("whatever is broken", x.meeting(0, 1), 14);
    }

    /** How many pairs of unlike NODES have BASES that don't meet. */
    private static void apartOnes() {
        for (int n = 2; n <= 16; n++) {
            Check.due("all of " + n, Gates.alone(n).apart(), n * (n - 1) / 2);
            Check.due("none of " + n, Gates.like(n, 1 << n - 1).apart(), 0);
        }
        QuorumGate x = Gates.alone(16);
        Check.due("all but those of one", x.base(15, 0xffff), 105);
        Check.due("the same", x.apart(), 105);
        x.breakDown(0);
        Check.due("whatever is broken", x.apart(), 105);
    }

    /** How many BASES have a NODE: from none to all. */
    private static void loads() {
        QuorumGate x = Gates.like(16, 1 << 15);
        Check.due("all", x.load(15), 16);
        Check.due("none", x.load(0), 0);
        Check.due("none", x.load(14), 0);
        Check.due("no NODE", x.load(16), -1);
        x = Gates.alone(2);
        Check.due("its own", x.load(0) + 10 * x.load(1), 11);
    }

    /** (bits; those of no NODES are left aside) alone. */
    private static void stopsAside() {
        for (int n = 2; n <= 16; n++) {
            QuorumGate x = Gates.like(n, 1 << n - 1);
            Check.due("nothing", x.stops(0), false);
            Check.due("those of no NODES", x.stops(1 << n), false);
            Check.due("all of no NODES", x.stops(-1 << n), false);
            Check.due("the sign", x.stops(MIN), false);
            Check.due("all but the last", x.stops((1 << n - 1) - 1), false);
            Check.due("the last", x.stops(1 << n - 1), true);
            Check.due("the last and those of no NODES", x.stops(-1 << n - 1), true);
            Check.due("all", x.stops(-1), true);
            Check.due("as far as it goes", x.stops(MAX), true);
            x.breakDown(n - 1);
            Check.due("by these alone", x.stops(0), false);
        }
    }

    /** The fewest NODES that stop all so (what 0), the least set of as many (1). */
    private static void weakestOnes() {
        for (int n = 2; n <= 16; n++) {
            QuorumGate x = Gates.alone(n);
            Check.due("all of " + n, x.weakest(0), n);
            Check.due("all of " + n, x.weakest(1), (1 << n) - 1);
            x = Gates.like(n, 1 << n - 1);
            Check.due("the last of " + n, x.weakest(0), 1);
            Check.due("the last of " + n, x.weakest(1), 1 << n - 1);
            x = Gates.like(n, (1 << n) - 1);
            Check.due("the least of like ones", x.weakest(1), 1);
        }
        QuorumGate x = threeOrOne();
        Check.due("the fewest, not the least", x.weakest(0), 1);
        Check.due("the fewest, not the least", x.weakest(1), 8);
    }

    /** 3 with each other one. */
    private static QuorumGate threeOrOne() {
        QuorumGate x = new QuorumGate();
        x.base(0, 9);
        x.base(1, 10);
        x.base(2, 12);
        x.base(3, 9);
        return x;
    }

    /** (A like one of a lesser NODE, too.) */
    private static void needlessOnes() {
        for (int n = 2; n <= 16; n++) {
            Check.due("none of " + n, Gates.alone(n).needless(), 0);
            Check.due("all like but the first of " + n, Gates.like(n, 1).needless(), n - 1);
            QuorumGate x = Gates.alone(n);
            x.base(0, (1 << n) - 1);
            Check.due("the greatest alone", x.needless(), 1);
            x.base(0, 1 << n - 1);
            Check.due("like the last, which is the greater NODE", x.needless(), 1);
        }
        QuorumGate x = new QuorumGate();
        x.base(0, 15);
        x.base(1, 7);
        x.base(2, 3);
        x.base(3, 1);
        Check.due("within those of greater NODES", x.needless(), 3);
    }

    /** Each NODE being BROKEN by odds of ten (0 .. 10). */
    private static void chancesAtTheEnds() {
        for (int n = 2; n <= 16; n++) {
            QuorumGate x = Gates.like(n, 1 << n - 1);
            for (int odds = 0; odds <= 10; odds++) {
                Check.due("one of " + n + " by " + odds, x.chance(odds), 1000000 - 100000 * odds);
                Check.due("one of " + n + " by " + odds, x.chanceOf(n - 1, odds), 1000000 - 100000 * odds);
                Check.due("another of " + n + " by " + odds, x.chanceOf(0, odds), 10000 * (10 - odds) * (10 - odds));
            }
        }
        QuorumGate x = new QuorumGate();
        for (int h = 2; h <= 4; h++) {
            x.tree(h);
            Check.due("tree, never broken", x.chance(0), 1000000);
            Check.due("tree, always broken", x.chance(10), 0);
            // By halves a tree is as likely whole as not.
            Check.due("tree, by halves", x.chance(5), 500000);
        }
        x.tree(4);
        for (int v = 0; v < 15; v++) {
            x.breakDown(v);
        }
        Check.due("whatever is BROKEN now", x.chance(0), 1000000);
        Check.due("whatever is BROKEN now", x.chanceOf(0, 0), 1000000);
    }

    /** In millionths, cut. */
    private static void chancesCut() {
        QuorumGate x = Gates.like(6, 63);
        Check.due("a millionth", x.chance(9), 1);
        Check.due("a millionth", x.chanceOf(5, 9), 1);
        x = Gates.like(7, 127);
        Check.due("a tenth of one", x.chance(9), 0);
        // 0.9 seven times: 0.4782969.
        Check.due("cut", x.chance(1), 478296);
        Check.due("cut", x.chanceOf(6, 1), 478296);
        x = Gates.like(16, 65535);
        // 0.5 sixteen times: 0.0000152587890625; 0.9 sixteen times: 0.185302018...
        Check.due("sixteen by halves", x.chance(5), 15);
        Check.due("sixteen", x.chance(1), 185302);
        x = Gates.alone(16);
        Check.due("all but the like of it", x.chance(5), 999984);
        Check.due("all but one of 10000000000000000", x.chance(1), 999999);
        Check.due("all", x.chance(0), 1000000);
        // 1 less 0.9 sixteen times: 0.814697981...
        Check.due("one of sixteen", x.chance(9), 814697);
        Check.due("itself", x.chanceOf(15, 9), 100000);
        x = Gates.alone(5);
        Check.due("five, not cut", x.chance(1), 999990);
        x = Gates.alone(6);
        Check.due("six, not cut", x.chance(1), 999999);
    }

    /** The chance that a NODE isn't BROKEN and has a QUORUM: of the first and the last of each choice. */
    private static void chancesOfNodes() {
        QuorumGate x = new QuorumGate();
        x.wheel(3);
        // Each two of three are a base: 0.9 * (1 - 0.01).
        for (int v = 0; v < 3; v++) {
            Check.due("wheel(3), " + v, x.chanceOf(v, 1), 891000);
            Check.due("never broken", x.chanceOf(v, 0), 1000000);
            Check.due("always broken", x.chanceOf(v, 10), 0);
        }
        x.tree(2);
        // The root: 0.5 * 0.75; a leaf: 0.5 * (0.5 + 0.5 * 0.5).
        Check.due("the root", x.chanceOf(0, 5), 375000);
        Check.due("the first leaf", x.chanceOf(1, 5), 375000);
        Check.due("the last leaf", x.chanceOf(2, 5), 375000);
        x.base(0, 3);
        // By bases alone 0 must be there: 0.5 * 0.5 for a leaf.
        Check.due("a tree no more: the first leaf", x.chanceOf(1, 5), 250000);
        Check.due("a tree no more: the root", x.chanceOf(0, 5), 375000);
    }

    /** Of BASES how many NODES the least, the greatest has, how many all have in common. */
    private static void sizesOfBases() {
        for (int n = 2; n <= 16; n++) {
            QuorumGate x = Gates.like(n, (1 << n) - 1);
            Check.due("all of " + n, x.sizes(0) + 100 * x.sizes(1) + 10000 * x.sizes(2), 10101 * n);
            x.base(n - 1, 1);
            Check.due("one of " + n, x.sizes(0) + 100 * x.sizes(1) + 10000 * x.sizes(2), 1 + 100 * n + 10000);
            x = Gates.alone(n);
            Check.due("none in common", x.sizes(0) + 100 * x.sizes(1) + 10000 * x.sizes(2), 101);
        }
    }

    /** How many sets without a NODE are made LIVE by it. */
    private static void pivotalOnes() {
        for (int n = 2; n <= 16; n++) {
            QuorumGate x = Gates.like(n, 1 << n - 1);
            Check.due("all sets without it", x.pivotal(n - 1), 1 << n - 1);
            Check.due("none", x.pivotal(0), 0);
            x = Gates.like(n, (1 << n) - 1);
            Check.due("all the others", x.pivotal(0) + 10 * x.pivotal(n - 1), 11);
            x = Gates.alone(n);
            Check.due("the empty one", x.pivotal(0) + 10 * x.pivotal(n - 1), 11);
        }
        QuorumGate x = new QuorumGate();
        x.tree(2);
        x.breakDown(0);
        Check.due("by BASES, whatever is broken", x.pivotal(0), 3);
    }

    /** All BASES have as many NODES and all NODES the same load. */
    private static void fairOnes() {
        for (int n = 2; n <= 16; n++) {
            Check.due("each alone of " + n, Gates.alone(n).fair(), true);
            Check.due("all of " + n, Gates.like(n, (1 << n) - 1).fair(), true);
            Check.due("the last of " + n, Gates.like(n, 1 << n - 1).fair(), false);
            QuorumGate x = new QuorumGate();
            x.majority(n);
            Check.due("majority(" + n + ")", x.fair(), true);
            x.base(n - 1, (1 << n) - 1);
            Check.due("the last greater, but of 2", x.fair(), n == 2);
        }
    }

    /** The least set (as a number) that DOES BETTER. NONE: none does. */
    private static void betterOnes() {
        Check.due("the least, not the fewest", threeOrOne().better(), 7);
        for (int n = 2; n <= 16; n++) {
            Check.due("each alone: all are needed, and each is a base", Gates.alone(n).better(), -1);
            Check.due("the one alone: it is a base", Gates.like(n, 1 << n - 1).better(), -1);
            Check.due("the first of all", Gates.like(n, (1 << n) - 1).better(), 1);
            Check.due("of two", Gates.like(n, 3 << n - 2).better(), 1 << n - 2);
        }
        QuorumGate x = Gates.alone(16);
        x.base(15, 1);
        for (int v = 0; v < 15; v++) {
            x.base(v, 1 | 1 << v + 1);
        }
        Check.due("its base is within it", x.better(), -1);
        for (int v = 0; v < 16; v++) {
            x.base(v, v < 15 ? 1 << 15 | 1 << v : 1 << 15 | 1);
        }
        Check.due("all but the last", x.better(), 0x7fff);
        x.breakDown(0);
        Check.due("whatever is broken", x.better(), 0x7fff);
    }
}
