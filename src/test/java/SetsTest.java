/** Promises 1 to 9 and 11 to 22: nodes, bases, and what is told of them. The answers due are worked out by hand. */
final class SetsTest {
    private static final int[] WRONG = {-1, -2, 17, 100, Integer.MAX_VALUE, Integer.MIN_VALUE};

    private SetsTest() {
    }

    public static void main(String[] args) {
        newObject();
        grids();
        planes();
        fillings();
        majorities();
        wheels();
        trees();
        withins();
        withinOfWheelAndTree();
        basesByHand();
        makingAnew();
        refusedMaking();
        meetings();
        apartAndLoad();
        stopping();
        weakestOnes();
        needlessOnes();
        chances();
        chancesOfNodes();
        sizesOfBases();
        pivotalOnes();
        fairness();
        betterOnes();
        Check.end("SetsTest");
    }

    private static void bases(QuorumGate x, String of, int... want) {
        Check.due(of + ": nodes", x.is(0), want.length);
        for (int v = 0; v < want.length; v++) {
            Check.due(of + ": quorum(" + v + ", 0)", x.quorum(v, 0), want[v]);
            Check.due(of + ": quorum(" + v + ", 1)", x.quorum(v, 1), want[v]);
            Check.due(of + ": quorum(" + v + ", 2)", x.quorum(v, 2), 0);
        }
        Check.due(of + ": no more nodes", x.quorum(want.length, 0), -1);
    }

    private static void newObject() {
        Check.due("NONE", QuorumGate.NONE, -1);
        QuorumGate x = new QuorumGate();
        bases(x, "new", 7, 11, 13, 14);
        isAsAtFirst(x, "new");
    }

    private static void grids() {
        QuorumGate x = new QuorumGate();
        Check.due("grid(3)", x.grid(3), 9);
        // The middle one: 3, 4, 5 and 1, 4, 7.
        Check.due("middle of grid(3)", x.quorum(4, 0), 2 + 8 + 16 + 32 + 128);
        Check.due("corner of grid(3)", x.quorum(8, 0), 4 + 32 + 64 + 128 + 256);
        Check.due("grid(4)", x.grid(4), 16);
        Check.due("first of grid(4)", x.quorum(0, 0), 0x000f | 0x1111);
        Check.due("last of grid(4)", x.quorum(15, 0), 0xf000 | 0x8888);
        Check.due("grid(2)", x.grid(2), 4);
        bases(x, "grid(2)", 7, 11, 13, 14);
        for (int k : new int[] {-1, 0, 1, 5, 16, Integer.MAX_VALUE, Integer.MIN_VALUE}) {
            Check.due("grid(" + k + ")", x.grid(k), -1);
        }
        Check.due("nodes behind it", x.is(0), 4);
    }

    private static void planes() {
        QuorumGate x = new QuorumGate();
        Check.due("plane(2)", x.plane(2), 7);
        bases(x, "plane(2)", 11, 22, 44, 88, 16 + 32 + 1, 32 + 64 + 2, 64 + 1 + 4);
        eachTwoMeetInOne(x, 7);
        Check.due("plane(3)", x.plane(3), 13);
        Check.due("first of plane(3)", x.quorum(0, 0), 1 + 2 + 8 + 512);
        Check.due("last of plane(3)", x.quorum(12, 0), 4096 + 1 + 4 + 256);
        eachTwoMeetInOne(x, 13);
        for (int q : new int[] {-1, 0, 1, 4, 5, Integer.MAX_VALUE, Integer.MIN_VALUE}) {
            Check.due("plane(" + q + ")", x.plane(q), -1);
        }
        Check.due("nodes behind it", x.is(0), 13);
    }

    private static void eachTwoMeetInOne(QuorumGate x, int n) {
        for (int a = 0; a < n; a++) {
            for (int b = 0; b < a; b++) {
                Check.due("meet in one", Integer.bitCount(x.quorum(a, 0) & x.quorum(b, 0)), 1);
            }
        }
    }

    private static void fillings() {
        QuorumGate x = new QuorumGate();
        Check.due("filled(2)", x.filled(2), 2);
        bases(x, "filled(2)", 3, 3);
        Check.due("filled(3)", x.filled(3), 3);
        bases(x, "filled(3)", 7, 3, 5);
        Check.due("filled(4)", x.filled(4), 4);
        bases(x, "filled(4)", 7, 11, 13, 14);
        Check.due("filled(5)", x.filled(5), 5);
        bases(x, "filled(5)", 15, 23, 15, 27, 31);
        Check.due("filled(9)", x.filled(9), 9);
        Check.due("middle of filled(9)", x.quorum(4, 0), 186);
        Check.due("filled(10)", x.filled(10), 10);
        // Row 8, 9, 10 for 0, 11 for 1; column 1, 5, 9, 13 for 3.
        Check.due("last of filled(10)", x.quorum(9, 0), 1 + 2 + 8 + 32 + 256 + 512);
        Check.due("filled(16)", x.filled(16), 16);
        Check.due("last of filled(16)", x.quorum(15, 0), 0xf000 | 0x8888);
        Check.due("filled(1)", x.filled(1), -1);
        Check.due("filled(0)", x.filled(0), -1);
        for (int n : WRONG) {
            Check.due("filled(" + n + ")", x.filled(n), -1);
        }
    }

    private static void majorities() {
        QuorumGate x = new QuorumGate();
        Check.due("majority(2)", x.majority(2), 2);
        bases(x, "majority(2)", 3, 3);
        Check.due("majority(3)", x.majority(3), 3);
        bases(x, "majority(3)", 3, 6, 5);
        Check.due("majority(4)", x.majority(4), 4);
        bases(x, "majority(4)", 7, 14, 13, 11);
        Check.due("majority(5)", x.majority(5), 5);
        bases(x, "majority(5)", 7, 14, 28, 25, 19);
        Check.due("majority(16)", x.majority(16), 16);
        Check.due("first of majority(16)", x.quorum(0, 0), 0x01ff);
        Check.due("last of majority(16)", x.quorum(15, 0), 0x80ff);
        Check.due("majority(1)", x.majority(1), -1);
        Check.due("majority(0)", x.majority(0), -1);
        for (int n : WRONG) {
            Check.due("majority(" + n + ")", x.majority(n), -1);
        }
    }

    private static void wheels() {
        QuorumGate x = new QuorumGate();
        Check.due("wheel(3)", x.wheel(3), 3);
        bases(x, "wheel(3)", 6, 3, 5);
        Check.due("wheel(5)", x.wheel(5), 5);
        bases(x, "wheel(5)", 30, 3, 5, 9, 17);
        Check.due("wheel(16)", x.wheel(16), 16);
        Check.due("hub of wheel(16)", x.quorum(0, 0), 0xfffe);
        Check.due("last of wheel(16)", x.quorum(15, 0), 0x8001);
        Check.due("wheel(2)", x.wheel(2), -1);
        Check.due("wheel(0)", x.wheel(0), -1);
        for (int n : WRONG) {
            Check.due("wheel(" + n + ")", x.wheel(n), -1);
        }
    }

    private static void trees() {
        QuorumGate x = new QuorumGate();
        Check.due("tree(2)", x.tree(2), 3);
        bases(x, "tree(2)", 3, 3, 5);
        Check.due("tree(3)", x.tree(3), 7);
        bases(x, "tree(3)", 11, 11, 37, 11, 19, 37, 69);
        Check.due("tree(4)", x.tree(4), 15);
        Check.due("root of tree(4)", x.quorum(0, 0), 1 + 2 + 8 + 128);
        Check.due("within tree(4)", x.quorum(5, 0), 1 + 4 + 32 + 2048);
        Check.due("last of tree(4)", x.quorum(14, 0), 1 + 4 + 64 + 16384);
        for (int h : new int[] {-1, 0, 1, 5, 16, Integer.MAX_VALUE, Integer.MIN_VALUE}) {
            Check.due("tree(" + h + ")", x.tree(h), -1);
        }
        Check.due("nodes behind it", x.is(0), 15);
    }

    private static void withins() {
        QuorumGate x = new QuorumGate();
        Check.due("within(0, 3)", x.within(0, 3), 6);
        bases(x, "within(0, 3)", 53, 46, 7, 27, 51, 43);
        x.grid(2);
        Check.due("within(3, 2)", x.within(3, 2), 5);
        bases(x, "within(3, 2)", 7, 3 + 24, 5 + 24, 6 + 24, 6 + 24);
        x.grid(2);
        for (int v : new int[] {-1, 4, 16, Integer.MAX_VALUE, Integer.MIN_VALUE}) {
            Check.due("within(" + v + ", 2)", x.within(v, 2), -1);
        }
        for (int m : new int[] {-1, 0, 1, 9, Integer.MAX_VALUE, Integer.MIN_VALUE}) {
            Check.due("within(0, " + m + ")", x.within(0, m), -1);
        }
        bases(x, "behind refusals", 7, 11, 13, 14);
        x.grid(4);
        Check.due("17 nodes", x.within(0, 2), -1);
        x.filled(15);
        Check.due("16 nodes", x.within(0, 2), 16);
        x.filled(10);
        Check.due("17 nodes", x.within(0, 8), -1);
        x.filled(9);
        Check.due("16 nodes", x.within(8, 8), 16);
        // Of 8 old ones and new ones 8 .. 15: the last one stands for 8, with 6, 7, and 2, 5.
        Check.due("last within", x.quorum(15, 0), 4 + 32 + 64 + 128 + 0x8f00);
        Check.due("old one 5 within", x.quorum(5, 0), 4 + 8 + 16 + 32 + 0xe300);
    }

    private static void withinOfWheelAndTree() {
        QuorumGate x = new QuorumGate();
        x.wheel(4);
        Check.due("within(0, 3) of a wheel", x.within(0, 3), 6);
        // 0 is not in its own base, so the new ones have just those that it had.
        bases(x, "within of wheel", 1 + 48, 2 + 40, 4 + 24, 7, 7, 7);
        x.tree(2);
        Check.due("within(1, 2) of a tree", x.within(1, 2), 4);
        bases(x, "within of tree", 13, 3, 13, 13);
        Check.due("a tree no more", x.stops(1), true);
        x.breakDown(0);
        Check.due("a tree no more, now", x.quorum(0, 1), 0);
        x.grid(2);
        x.within(0, 3);
        Check.due("twice within", x.within(5, 2), 7);
        // Old one 3 had 0, 1, 3, 4: nothing of what is replaced. Old one 4 had 5: new one 4 mod 2.
        Check.due("twice within, old one 3", x.quorum(3, 0), 27);
        Check.due("twice within, old one 4", x.quorum(4, 0), 19 + 96);
        Check.due("twice within, new one", x.quorum(6, 0), 11 + 96);
    }

    private static void basesByHand() {
        QuorumGate x = new QuorumGate();
        x.majority(5);
        Check.due("base(0, 2)", x.base(0, 2), 2);
        bases(x, "base(0, 2)", 2, 14, 28, 25, 19);
        Check.due("base(4, 4)", x.base(4, 4), 4);
        Check.due("base(0, 31)", x.base(0, 31), 1);
        Check.due("base(4, 16)", x.base(4, 16), 1);
        for (int set : new int[] {0, 32, 33, -1, Integer.MIN_VALUE, 1 << 16}) {
            Check.due("base(0, " + set + ")", x.base(0, set), -1);
        }
        for (int v : new int[] {-1, 5, Integer.MAX_VALUE, Integer.MIN_VALUE}) {
            Check.due("base(" + v + ", 1)", x.base(v, 1), -1);
        }
        bases(x, "behind refusals", 31, 14, 28, 25, 16);
        x.tree(2);
        Check.due("stops(1) of a tree", x.stops(1), false);
        Check.due("base of a tree", x.base(0, 3), 0);
        Check.due("stops(1), a tree no more", x.stops(1), true);
        x.majority(16);
        Check.due("base(0, 65535)", x.base(0, 65535), 0);
        Check.due("base(0, 65536)", x.base(0, 65536), -1);
    }

    private static void makingAnew() {
        for (int how = 0; how < 8; how++) {
            QuorumGate x = new QuorumGate();
            stir(x);
            switch (how) {
                case 0: x.grid(3); break;
                case 1: x.plane(2); break;
                case 2: x.filled(5); break;
                case 3: x.majority(4); break;
                case 4: x.wheel(4); break;
                case 5: x.tree(3); break;
                case 6: x.within(2, 2); break;
                default: x.base(1, 15); break;
            }
            isAsAtFirst(x, "made anew by " + how);
        }
        QuorumGate x = new QuorumGate();
        x.majority(2);
        x.base(0, 1);
        x.base(1, 2);
        x.ask(0);
        x.ask(1);
        x.bring(1, 1);
        x.bring(1, 1);
        x.goOn(0, 2);
        Check.due("two inside", x.is(7), 1);
        Check.due("one overtook", x.is(11), 1);
        x.base(0, 1);
        isAsAtFirst(x, "behind two inside");
    }

    /** An entry, somebody asking, letters, something broken, ways. */
    private static void stir(QuorumGate x) {
        x.ask(0);
        x.goOn(1, 6);
        x.breakDown(3);
        x.ask(2);
        x.delay(0, 0, 9);
        x.delay(0, 1, 9);
        Check.due("stirred: entries", x.is(5), 1);
        Check.isTrue("stirred: letters", x.is(1) > 0);
        Check.due("stirred: broken", x.is(4), 8);
    }

    private static void isAsAtFirst(QuorumGate x, String at) {
        for (int what = 1; what <= 12; what++) {
            Check.due(at + ": is(" + what + ")", x.is(what), 0);
        }
        for (int v = 0; v < x.is(0); v++) {
            for (int what = 0; what <= 7; what++) {
                Check.due(at + ": node(" + v + ", " + what + ")", x.node(v, what), 0);
            }
            Check.due(at + ": granted", x.arbiter(v, 0), -1);
            Check.due(at + ": inquired", x.arbiter(v, 2), 0);
            Check.due(at + ": waiting", x.arbiter(v, 3), 0);
            Check.due(at + ": handled", x.handled(v), 0);
            Check.due(at + ": in use", x.quorum(v, 2), 0);
            for (int u = 0; u < x.is(0); u++) {
                Check.due(at + ": way", x.way(u, v, -1), 0);
            }
        }
        for (int kind = 0; kind <= 6; kind++) {
            Check.due(at + ": sent", x.sent(kind), 0);
        }
        Check.due(at + ": book", x.book(-1, 0), 0);
        Check.due(at + ": trace", x.trace(-1, 0), 0);
        Check.due(at + ": mean", x.mean(), 0);
        Check.due(at + ": byRoot", x.byRoot(), 0);
        Check.due(at + ": ask", x.ask(0), 1);
        // By ways of 1 a letter and its answer take 2 times.
        Check.due(at + ": ways", x.timed(1, 0, 3), 2);
    }

    /** What is refused leaves all as it is. */
    private static void refusedMaking() {
        QuorumGate x = new QuorumGate();
        stir(x);
        x.grid(1);
        x.plane(1);
        x.filled(1);
        x.majority(1);
        x.wheel(2);
        x.tree(1);
        x.within(0, 1);
        x.within(9, 2);
        x.base(0, 0);
        x.base(9, 1);
        Check.due("refused: asking", x.is(3), 4);
        Check.due("refused: entries", x.is(5), 1);
        Check.due("refused: broken", x.is(4), 8);
        Check.due("refused: base", x.quorum(0, 0), 7);
        x.tree(2);
        x.within(0, 1);
        x.base(0, 8);
        Check.due("refused: a tree still", x.stops(1), false);
    }

    private static void meetings() {
        QuorumGate x = new QuorumGate();
        Check.due("meeting(0, 3)", x.meeting(0, 3), 1);
        Check.due("meeting(3, 0)", x.meeting(3, 0), 1);
        Check.due("meeting(2, 3)", x.meeting(2, 3), 2);
        Check.due("meeting(3, 3)", x.meeting(3, 3), 1);
        x.base(0, 1);
        Check.due("none", x.meeting(0, 3), -1);
        Check.due("none", x.meeting(3, 0), -1);
        Check.due("one still", x.meeting(0, 1), 0);
        Check.due("meeting(0, 4)", x.meeting(0, 4), -1);
        Check.due("meeting(4, 0)", x.meeting(4, 0), -1);
        Check.due("meeting(-1, 0)", x.meeting(-1, 0), -1);
        Check.due("meeting(0, -1)", x.meeting(0, -1), -1);
        x.majority(16);
        Check.due("of sixteen", x.meeting(8, 15), 0);
        x.base(8, 1 << 15);
        Check.due("in the last", x.meeting(8, 15), 15);
    }

    private static void apartAndLoad() {
        QuorumGate x = new QuorumGate();
        Check.due("apart()", x.apart(), 0);
        x.base(0, 1);
        x.base(3, 8);
        // 1 and 2 have both of 0 and 3, so only these two are apart.
        Check.due("apart() by hand", x.apart(), 1);
        x.base(1, 2);
        x.base(2, 4);
        Check.due("all apart", x.apart(), 6);
        x.wheel(5);
        Check.due("load of the hub", x.load(0), 4);
        Check.due("load of another", x.load(4), 2);
        Check.due("load(5)", x.load(5), -1);
        Check.due("load(-1)", x.load(-1), -1);
        x.base(0, 1);
        Check.due("load of all", x.load(0), 5);
        Check.due("load of one", x.load(3), 1);
        x.base(3, 1);
        Check.due("load of none", x.load(3), 0);
    }

    private static void stopping() {
        QuorumGate x = new QuorumGate();
        Check.due("stops(0)", x.stops(0), false);
        Check.due("stops(2)", x.stops(2), false);
        Check.due("stops(10)", x.stops(10), true);
        Check.due("stops(15)", x.stops(15), true);
        Check.due("those of no nodes aside", x.stops(~15), false);
        Check.due("those of no nodes aside", x.stops(~15 | 1), false);
        Check.due("stops(-1)", x.stops(-1), true);
        x.breakDown(0);
        Check.due("by these alone", x.stops(2), false);
        x.tree(3);
        Check.due("root of a tree", x.stops(1), false);
        Check.due("root and one below", x.stops(3), false);
        Check.due("root, one below, and what is below that", x.stops(11), true);
        Check.due("all inner ones", x.stops(7), false);
        Check.due("half of the leaves", x.stops(8 + 32), false);
        Check.due("all leaves", x.stops(8 + 16 + 32 + 64), true);
        x.wheel(4);
        Check.due("the hub", x.stops(1), false);
        Check.due("the hub and another", x.stops(9), true);
        Check.due("all others", x.stops(14), true);
        Check.due("two others", x.stops(6), false);
    }

    private static void weakestOnes() {
        QuorumGate x = new QuorumGate();
        weakest(x, "grid(2)", 3);
        x.plane(2);
        weakest(x, "plane(2)", 11);
        x.wheel(5);
        weakest(x, "wheel(5)", 3);
        x.tree(2);
        weakest(x, "tree(2)", 3);
        x.tree(3);
        weakest(x, "tree(3)", 11);
        x.tree(4);
        weakest(x, "tree(4)", 139);
        x.majority(2);
        weakest(x, "majority(2)", 1);
        x.base(0, 2);
        weakest(x, "by hand", 2);
        x.base(0, 1);
        x.base(1, 2);
        weakest(x, "two apart", 3);
        x.grid(4);
        // A row goes through each column, and nothing less through each row and column.
        weakest(x, "grid(4)", 15);
        for (int v = 0; v < 16; v++) {
            x.base(v, 1 << 15);
        }
        weakest(x, "all on the last", 1 << 15);
        for (int v = 0; v < 16; v++) {
            x.base(v, 1 << v);
        }
        weakest(x, "each alone", 65535);
        x.majority(7);
        for (int v = 0; v < 7; v++) {
            x.base(v, 1 << v % 6);
        }
        weakest(x, "the first six", 63);
        for (int what : new int[] {-1, 2, 3, Integer.MAX_VALUE, Integer.MIN_VALUE}) {
            Check.due("weakest(" + what + ")", x.weakest(what), -1);
        }
        x.grid(2);
        x.breakDown(0);
        weakest(x, "whatever is broken", 3);
    }

    private static void weakest(QuorumGate x, String of, int set) {
        Check.due(of + ": weakest(1)", x.weakest(1), set);
        Check.due(of + ": weakest(0)", x.weakest(0), Integer.bitCount(set));
    }

    private static void needlessOnes() {
        QuorumGate x = new QuorumGate();
        Check.due("needless()", x.needless(), 0);
        x.base(0, 1);
        Check.due("within two others", x.needless(), 2);
        x.base(3, 1);
        Check.due("a like one, too", x.needless(), 3);
        x.filled(2);
        Check.due("filled(2)", x.needless(), 1);
        x.tree(3);
        Check.due("tree(3)", x.needless(), 3);
        x.majority(5);
        x.base(0, 31);
        Check.due("all of them", x.needless(), 1);
    }

    private static void chances() {
        QuorumGate x = new QuorumGate();
        Check.due("chance(0)", x.chance(0), 1000000);
        Check.due("chance(1)", x.chance(1), 947700);
        Check.due("chance(5)", x.chance(5), 312500);
        Check.due("chance(10)", x.chance(10), 0);
        x.breakDown(0);
        x.breakDown(1);
        Check.due("whatever is broken", x.chance(1), 947700);
        x.majority(2);
        Check.due("majority(2)", x.chance(3), 490000);
        x.majority(3);
        Check.due("majority(3)", x.chance(1), 972000);
        x.wheel(7);
        // 0.8 * (1 - 0.2^6) + 0.2 * 0.8^6 = 0.8523776
        Check.due("wheel(7), cut", x.chance(2), 852377);
        x.wheel(16);
        Check.due("wheel(16)", x.chance(5), 500000);
        Check.due("wheel(16), never broken", x.chance(0), 1000000);
        x.tree(2);
        Check.due("tree(2)", x.chance(5), 500000);
        x.tree(3);
        // A tree of 3: 0.9 (1 - 0.1^2) + 0.1 * 0.9^2 = 0.972; then 0.9 (1 - 0.028^2) + 0.1 * 0.972^2 = 0.9937728
        Check.due("tree(3), cut", x.chance(1), 993772);
        x.tree(4);
        // 0.9 (1 - 0.0062272^2) + 0.1 * 0.9937728^2 = 0.998723...
        Check.due("tree(4), cut", x.chance(1), 998723);
        for (int v = 0; v < 15; v++) {
            x.base(v, 1 << 14);
        }
        Check.due("the last alone", x.chance(3), 700000);
        Check.due("the last alone", x.chanceOf(14, 3), 700000);
        Check.due("another with it", x.chanceOf(0, 3), 490000);
        for (int odds : new int[] {-1, 11, 100, Integer.MAX_VALUE, Integer.MIN_VALUE}) {
            Check.due("chance(" + odds + ")", x.chance(odds), -1);
        }
    }

    private static void chancesOfNodes() {
        QuorumGate x = new QuorumGate();
        Check.due("chanceOf(0, 5)", x.chanceOf(0, 5), 250000);
        Check.due("chanceOf(3, 0)", x.chanceOf(3, 0), 1000000);
        Check.due("chanceOf(3, 10)", x.chanceOf(3, 10), 0);
        x.breakDown(0);
        Check.due("whatever is broken", x.chanceOf(0, 5), 250000);
        x.wheel(7);
        // 0.8 * (1 - 0.2^6) = 0.7999488
        Check.due("the hub, cut", x.chanceOf(0, 2), 799948);
        // 0.8 * (0.8 + 0.2 * 0.8^5) = 0.6924288
        Check.due("another, cut", x.chanceOf(6, 2), 692428);
        x.tree(3);
        // 0.9 * (1 - 0.028^2) = 0.8992944
        Check.due("the root, cut", x.chanceOf(0, 1), 899294);
        Check.due("chanceOf(7, 1)", x.chanceOf(7, 1), -1);
        Check.due("chanceOf(-1, 1)", x.chanceOf(-1, 1), -1);
        Check.due("chanceOf(0, 11)", x.chanceOf(0, 11), -1);
        Check.due("chanceOf(0, -1)", x.chanceOf(0, -1), -1);
        x.base(0, 1);
        // It is whole itself, and so is 0, which is a base now.
        Check.due("by hand", x.chanceOf(6, 5), 250000);
    }

    private static void sizesOfBases() {
        QuorumGate x = new QuorumGate();
        sizes(x, "grid(2)", 3, 3, 0);
        x.wheel(5);
        sizes(x, "wheel(5)", 2, 4, 0);
        x.tree(3);
        sizes(x, "tree(3)", 3, 3, 1);
        x.filled(5);
        sizes(x, "filled(5)", 4, 5, 2);
        x.base(0, 1);
        sizes(x, "by hand", 1, 5, 1);
        x.majority(16);
        sizes(x, "majority(16)", 9, 9, 0);
        x.majority(2);
        sizes(x, "majority(2)", 2, 2, 2);
        Check.due("sizes(3)", x.sizes(3), -1);
        Check.due("sizes(-1)", x.sizes(-1), -1);
    }

    private static void sizes(QuorumGate x, String of, int least, int greatest, int common) {
        Check.due(of + ": sizes(0)", x.sizes(0), least);
        Check.due(of + ": sizes(1)", x.sizes(1), greatest);
        Check.due(of + ": sizes(2)", x.sizes(2), common);
    }

    private static void pivotalOnes() {
        QuorumGate x = new QuorumGate();
        Check.due("pivotal(0)", x.pivotal(0), 3);
        x.wheel(4);
        Check.due("the hub", x.pivotal(0), 6);
        Check.due("another", x.pivotal(3), 2);
        x.tree(2);
        // By bases alone: without the root no set is live.
        Check.due("the root", x.pivotal(0), 3);
        Check.due("below it", x.pivotal(1), 1);
        x.majority(2);
        x.base(0, 1);
        x.base(1, 1);
        Check.due("always", x.pivotal(0), 2);
        Check.due("never", x.pivotal(1), 0);
        Check.due("pivotal(2)", x.pivotal(2), -1);
        Check.due("pivotal(-1)", x.pivotal(-1), -1);
        x.wheel(16);
        Check.due("the hub of 16", x.pivotal(0), 32768 - 2);
        Check.due("another of 16", x.pivotal(15), 2);
    }

    private static void fairness() {
        QuorumGate x = new QuorumGate();
        Check.due("grid(2)", x.fair(), true);
        x.plane(3);
        Check.due("plane(3)", x.fair(), true);
        x.majority(7);
        Check.due("majority(7)", x.fair(), true);
        x.wheel(3);
        Check.due("wheel(3)", x.fair(), true);
        x.wheel(4);
        Check.due("wheel(4)", x.fair(), false);
        x.tree(2);
        Check.due("like sizes, unlike loads", x.fair(), false);
        x.grid(2);
        x.base(0, 15);
        x.base(1, 7);
        x.base(2, 11);
        x.base(3, 12);
        Check.due("like loads, unlike sizes", x.load(0) + 10 * x.load(1) + 100 * x.load(2) + 1000 * x.load(3), 3333);
        Check.due("like loads, unlike sizes", x.fair(), false);
        x.majority(2);
        x.base(0, 1);
        x.base(1, 1);
        Check.due("like sizes, the load of 0 unlike", x.fair(), false);
        x.base(0, 2);
        Check.due("each the other's", x.fair(), true);
        x.majority(3);
        x.base(0, 3);
        x.base(1, 3);
        x.base(2, 3);
        Check.due("like sizes, the load of the last unlike", x.fair(), false);
    }

    private static void betterOnes() {
        QuorumGate x = new QuorumGate();
        Check.due("grid(2)", x.better(), 3);
        x.wheel(4);
        Check.due("wheel(4)", x.better(), -1);
        x.majority(3);
        Check.due("majority(3)", x.better(), -1);
        x.majority(4);
        Check.due("majority(4)", x.better(), 3);
        x.tree(2);
        Check.due("tree(2)", x.better(), 1);
        x.tree(4);
        Check.due("tree(4)", x.better(), 1);
        x.plane(2);
        Check.due("plane(2)", x.better(), -1);
        x.majority(2);
        x.base(0, 1);
        x.base(1, 2);
        Check.due("apart", x.better(), -1);
        x.grid(4);
        // A row is in each base and has none within it.
        Check.due("grid(4)", x.better(), 15);
        for (int v = 0; v < 16; v++) {
            x.base(v, 3 << 14);
        }
        Check.due("one of two", x.better(), 1 << 14);
    }
}
