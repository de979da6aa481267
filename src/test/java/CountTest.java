/** Promises 33 to 40, 49 and 50: what is counted and told. The answers due are worked out by hand. */
final class CountTest {
    private static final int[] FAR = {17, 100, Integer.MAX_VALUE, Integer.MIN_VALUE};

    private CountTest() {
    }

    public static void main(String[] args) {
        numbersAtFirst();
        lettersAndMoves();
        entriesAndWaits();
        twoInside();
        overtaking();
        likeStamps();
        rounds();
        roundOfOthers();
        handledAndSent();
        theBook();
        theBookIsFull();
        lettersOfOneEntry();
        waitsFor();
        unheard();
        crowded();
        theTrace();
        theTraceIsFull();
        means();
        byRoots();
        Check.end("CountTest");
    }

    /** Two nodes, each in the base of each. */
    private static QuorumGate two() {
        QuorumGate x = new QuorumGate();
        x.majority(2);
        return x;
    }

    private static void enterAlone(QuorumGate x, int node) {
        x.ask(node);
        x.bring(node, node);
        x.bring(node, node);
    }

    private static void numbersAtFirst() {
        QuorumGate x = new QuorumGate();
        Check.due("nodes", x.is(0), 4);
        for (int what = 1; what <= 12; what++) {
            Check.due("is(" + what + ")", x.is(what), 0);
        }
        Check.due("is(13)", x.is(13), -1);
        Check.due("is(-1)", x.is(-1), -1);
        for (int what : FAR) {
            Check.due("is(" + what + ")", x.is(what), -1);
        }
        x.majority(16);
        Check.due("nodes", x.is(0), 16);
    }

    private static void lettersAndMoves() {
        QuorumGate x = two();
        x.ask(0);
        x.withdraw(0);
        Check.due("letters", x.is(1), 4);
        Check.due("moves by pairs", x.is(10), 2);
        x.goOn(0, 500);
        x.ask(1);
        Check.due("asking", x.is(3), 2);
        x.goOn(0, 4);
        Check.due("letters", x.is(1), 0);
        Check.due("inside", x.is(2), 2);
        Check.due("to leave is a move", x.is(10), 1);
        x.ask(0);
        Check.due("letters", x.is(1), 2);
        Check.due("moves", x.is(10), 3);
        Check.due("asking", x.is(3), 1);
        QuorumGate y = new QuorumGate();
        y.breakDown(3);
        y.breakDown(1);
        Check.due("broken", y.is(4), 10);
    }

    private static void entriesAndWaits() {
        QuorumGate x = Gates.alone(3);
        enterAlone(x, 0);
        Check.due("entries", x.is(5), 1);
        Check.due("bringings", x.is(6), 2);
        Check.due("most letters", x.is(8), 2);
        Check.due("most waited", x.is(9), 2);
        x.ask(1);
        enterAlone(x, 2);
        x.leave(0);
        x.bring(0, 0);
        x.bring(1, 1);
        x.bring(1, 1);
        Check.due("entries", x.is(5), 3);
        Check.due("bringings", x.is(6), 7);
        // Two letters of its own, but five that were brought in that time.
        Check.due("most letters", x.is(8), 2);
        Check.due("most waited", x.is(9), 5);
        Check.due("its row", x.book(0, 2), 5);
        Check.due("its row", x.book(0, 3), 2);
        x.leave(1);
        x.bring(1, 1);
        enterAlone(x, 1);
        Check.due("the most stays", x.is(9), 5);
        Check.due("times of 1", x.node(1, 7), 2);
        Check.due("times of 2", x.node(2, 7), 1);
    }

    private static void twoInside() {
        QuorumGate x = Gates.alone(3);
        enterAlone(x, 0);
        Check.due("one", x.is(7), 0);
        enterAlone(x, 1);
        Check.due("two", x.is(7), 1);
        enterAlone(x, 2);
        Check.due("three", x.is(7), 2);
        Check.due("inside", x.is(2), 7);
        x.leave(0);
        x.leave(1);
        x.leave(2);
        x.goOn(0, 500);
        enterAlone(x, 1);
        Check.due("one again", x.is(7), 2);
    }

    private static void overtaking() {
        QuorumGate x = Gates.alone(3);
        x.ask(0);
        x.withdraw(0);
        x.ask(0);
        x.ask(2);
        enterAlone(x, 1);
        Check.due("by like stamps those of greater nodes are behind", x.is(11), 0);
        x.leave(1);
        x.bring(1, 1);
        enterAlone(x, 1);
        Check.due("2 is ahead by its stamp, 0 by its number", x.is(11), 1);
        Check.due("stamp of 1", x.node(1, 2), 2);
        x.goOn(0, 500);
        Check.due("entries", x.is(5), 4);
    }

    private static void likeStamps() {
        QuorumGate x = Gates.alone(2);
        x.ask(0);
        enterAlone(x, 1);
        Check.due("the lesser node is ahead", x.is(11), 1);
        x.goOn(0, 500);
        Check.due("it overtook nobody", x.is(11), 1);
        QuorumGate y = Gates.alone(2);
        y.ask(1);
        enterAlone(y, 0);
        Check.due("the greater node is not", y.is(11), 0);
        QuorumGate z = Gates.alone(2);
        z.ask(0);
        z.goOn(0, 2);
        z.ask(1);
        z.goOn(0, 500);
        Check.due("who is inside waits for nothing", z.is(11), 0);
    }

    /** Each of two has the other's arbiter. */
    private static void rounds() {
        QuorumGate x = two();
        x.ask(0);
        x.ask(1);
        x.bring(0, 1);
        Check.due("one waits", x.is(12), 0);
        x.bring(1, 0);
        Check.due("for each other", x.is(12), 3);
        Check.due("0 for", x.waitsFor(0), 2);
        Check.due("1 for", x.waitsFor(1), 1);
        x.withdraw(0);
        Check.due("no more", x.is(12), 0);
    }

    /** 0, 1, 2 round; 3 waits for one of them, but for itself not. */
    private static void roundOfOthers() {
        QuorumGate x = Gates.alone(4);
        x.base(0, 1 | 2);
        x.base(1, 2 | 4);
        x.base(2, 4 | 1);
        x.base(3, 8 | 1);
        for (int v = 0; v < 4; v++) {
            x.ask(v);
        }
        x.bring(3, 3);
        x.bring(0, 0);
        x.bring(1, 1);
        Check.due("a row", x.is(12), 0);
        Check.due("3 for", x.waitsFor(3), 1);
        Check.due("2 for", x.waitsFor(2), 1);
        Check.due("0 for", x.waitsFor(0), 2);
        Check.due("1 for", x.waitsFor(1), 0);
        x.bring(2, 2);
        // Their letters are not there yet: whom an arbiter granted is all that is asked.
        Check.due("1 for", x.waitsFor(1), 4);
        Check.due("round", x.is(12), 7);
        x.bring(1, 1);
        Check.due("its own vote is no matter", x.is(12), 7);
        x.withdraw(2);
        Check.due("none asks round", x.is(12), 0);
    }

    private static void handledAndSent() {
        QuorumGate x = two();
        x.ask(0);
        x.ask(1);
        Check.due("sent requests", x.sent(0), 4);
        Check.due("sent in all", x.sent(6), 4);
        Check.due("brought none", x.handled(0) + x.handled(1), 0);
        x.bring(1, 1);
        x.bring(0, 1);
        x.bring(0, 0);
        x.bring(1, 0);
        Check.due("sent grants", x.sent(1), 2);
        Check.due("sent fails", x.sent(2), 1);
        Check.due("sent inquiries", x.sent(3), 1);
        Check.due("to 0", x.handled(0), 2);
        Check.due("to 1", x.handled(1), 2);
        x.bring(1, 1);
        x.bring(1, 1);
        x.bring(0, 1);
        Check.due("sent yields", x.sent(4), 1);
        Check.due("to 1, by itself, too", x.handled(1), 5);
        x.withdraw(0);
        Check.due("sent releases", x.sent(5), 2);
        Check.due("sent in all", x.sent(6), 4 + 2 + 1 + 1 + 1 + 2);
        x.withdraw(1);
        x.breakDown(0);
        Check.due("brought, not gone", x.handled(0), 2);
        Check.due("sent stays", x.sent(0), 4);
        for (int v : new int[] {-1, 2, 16, Integer.MAX_VALUE, Integer.MIN_VALUE}) {
            Check.due("handled(" + v + ")", x.handled(v), -1);
        }
        for (int kind : new int[] {-1, 7, 8, Integer.MAX_VALUE, Integer.MIN_VALUE}) {
            Check.due("sent(" + kind + ")", x.sent(kind), -1);
        }
    }

    private static void row(QuorumGate x, int ago, int... want) {
        for (int what = 0; what < 4; what++) {
            Check.due("book(" + ago + ", " + what + ")", x.book(ago, what), want[what]);
        }
    }

    private static void theBook() {
        QuorumGate x = two();
        Check.due("how many", x.book(-1, 0), 0);
        Check.due("none", x.book(0, 0), -2);
        x.ask(0);
        x.goOn(0, 4);
        row(x, 0, 0, 1, 4, 4);
        Check.due("how many", x.book(-1, 0), 1);
        x.ask(1);
        x.goOn(0, 2);
        x.leave(0);
        x.goOn(0, 500);
        Check.due("how many", x.book(-1, 0), 2);
        row(x, 1, 0, 1, 4, 4);
        Check.due("the node", x.book(0, 0), 1);
        Check.due("its stamp", x.book(0, 1), 2);
        x.ask(0);
        x.goOn(0, 500);
        // Counted from the latest asking on: four letters again.
        row(x, 0, 0, 3, 4, 4);
        for (int ago : new int[] {-2, 3, 30, Integer.MAX_VALUE, Integer.MIN_VALUE}) {
            Check.due("book(" + ago + ", 0)", x.book(ago, 0), -2);
        }
        for (int what : new int[] {-1, 4, 5, Integer.MAX_VALUE, Integer.MIN_VALUE}) {
            Check.due("book(0, " + what + ")", x.book(0, what), -2);
        }
    }

    private static void theBookIsFull() {
        QuorumGate x = Gates.alone(2);
        for (int i = 1; i <= 35; i++) {
            enterAlone(x, 0);
            x.leave(0);
            x.bring(0, 0);
            Check.due("how many", x.book(-1, 0), Math.min(i, 30));
        }
        Check.due("entries", x.is(5), 35);
        for (int ago = 0; ago < 30; ago++) {
            Check.due("stamp", x.book(ago, 1), 35 - ago);
        }
        Check.due("book(30, 0)", x.book(30, 0), -2);
    }

    /** As an arbiter, too, one is brought letters. */
    private static void lettersOfOneEntry() {
        QuorumGate x = two();
        x.ask(1);
        x.bring(1, 0);
        x.bring(0, 1);
        x.bring(1, 1);
        x.ask(0);
        x.bring(0, 0);
        x.bring(0, 1);
        x.bring(0, 0);
        Check.due("nobody is inside", x.is(2), 0);
        x.bring(1, 1);
        // To 1 or from 1 all but two: the REQUEST and the FAIL of 0 to itself.
        Check.due("bringings", x.is(6), 7);
        row(x, 0, 1, 1, 7, 5);
        Check.due("most letters", x.is(8), 5);
        Check.due("most waited", x.is(9), 7);
    }

    private static void waitsFor() {
        QuorumGate x = new QuorumGate();
        x.majority(4);
        x.base(0, 15);
        x.ask(1);
        x.bring(1, 1);
        x.ask(2);
        x.bring(2, 2);
        x.ask(0);
        Check.due("1 and 2", x.waitsFor(0), 6);
        x.ask(3);
        x.bring(3, 3);
        Check.due("1, 2 and 3", x.waitsFor(0), 14);
        x.bring(0, 0);
        Check.due("itself aside", x.waitsFor(0), 14);
        x.bring(0, 0);
        Check.due("of what it has aside", x.node(0, 3), 1);
        Check.due("of what it has aside", x.waitsFor(0), 14);
        x.bring(1, 2);
        Check.due("1 for 2 and, of its third, 3", x.waitsFor(1), 12);
        x.withdraw(0);
        Check.due("idle", x.waitsFor(0), -1);
        Check.due("waitsFor(4)", x.waitsFor(4), -1);
        Check.due("waitsFor(-1)", x.waitsFor(-1), -1);
        QuorumGate y = two();
        y.ask(0);
        Check.due("nobody", y.waitsFor(0), 0);
        y.goOn(0, 4);
        Check.due("inside", y.waitsFor(0), -1);
        y.ask(1);
        y.bring(1, 0);
        Check.due("for who is inside", y.waitsFor(1), 1);
        Check.due("round by one inside", y.is(12), 0);
        for (int v : FAR) {
            Check.due("waitsFor(" + v + ")", y.waitsFor(v), -1);
        }
    }

    private static void unheard() {
        QuorumGate x = two();
        Check.due("idle", x.unheard(0), -1);
        x.ask(0);
        Check.due("all", x.unheard(0), 3);
        x.bring(0, 0);
        Check.due("all still", x.unheard(0), 3);
        x.bring(0, 0);
        Check.due("a vote", x.unheard(0), 2);
        x.ask(1);
        x.bring(1, 0);
        x.bring(0, 1);
        x.bring(1, 0);
        Check.due("inside", x.unheard(0), -1);
        x.bring(0, 1);
        Check.due("failed", x.node(1, 5), 1);
        Check.due("a fail", x.unheard(1), 2);
        for (int v : new int[] {-1, 2, 16, Integer.MAX_VALUE, Integer.MIN_VALUE}) {
            Check.due("unheard(" + v + ")", x.unheard(v), -1);
        }
    }

    private static void crowded() {
        QuorumGate x = new QuorumGate();
        Check.due("nobody anywhere", x.crowded(0), -1);
        Check.due("nobody anywhere", x.crowded(1), 0);
        x.ask(3);
        x.bring(3, 2);
        x.bring(3, 1);
        Check.due("granted is not waiting", x.crowded(0), -1);
        x.ask(0);
        x.bring(0, 2);
        Check.due("at 2", x.crowded(0), 2);
        Check.due("one", x.crowded(1), 1);
        x.bring(0, 1);
        Check.due("of like ones the least", x.crowded(0), 1);
        x.ask(2);
        x.bring(2, 2);
        Check.due("two at 2", x.crowded(0), 2);
        Check.due("two", x.crowded(1), 2);
        QuorumGate y = two();
        y.ask(1);
        y.bring(1, 0);
        y.ask(0);
        y.bring(0, 0);
        Check.due("at 0", y.crowded(0), 0);
        y.bring(1, 1);
        y.bring(0, 1);
        Check.due("at both", y.crowded(0), 0);
        for (int what : new int[] {-1, 2, 3, Integer.MAX_VALUE, Integer.MIN_VALUE}) {
            Check.due("crowded(" + what + ")", x.crowded(what), -1);
        }
    }

    private static void theTrace() {
        QuorumGate x = two();
        Check.due("how many", x.trace(-1, 0), 0);
        Check.due("none", x.trace(0, 0), -2);
        x.ask(1);
        x.withdraw(1);
        x.ask(1);
        x.bring(1, 0);
        x.bring(1, 0);
        x.bring(1, 0);
        x.bring(0, 1);
        int[][] want = {{1, 0, 1, 1}, {0, 1, 0, 2}, {5, 1, 0, 1}, {0, 1, 0, 1}};
        Check.due("how many", x.trace(-1, 0), 4);
        for (int ago = 0; ago < 4; ago++) {
            for (int what = 0; what < 4; what++) {
                Check.due("trace(" + ago + ", " + what + ")", x.trace(ago, what), want[ago][what]);
            }
        }
        for (int ago : new int[] {-2, 4, 40, Integer.MAX_VALUE, Integer.MIN_VALUE}) {
            Check.due("trace(" + ago + ", 0)", x.trace(ago, 0), -2);
        }
        for (int what : new int[] {-1, 4, 5, Integer.MAX_VALUE, Integer.MIN_VALUE}) {
            Check.due("trace(0, " + what + ")", x.trace(0, what), -2);
        }
        x.entersBy(1, 5);
        x.searched(40, 0);
        x.timed(3, 0, 0);
        x.crowd(3, 100, 0);
        Check.due("what only might be is not traced", x.trace(-1, 0), 4);
    }

    private static void theTraceIsFull() {
        QuorumGate x = Gates.alone(2);
        for (int i = 1; i <= 23; i++) {
            x.ask(1);
            x.bring(1, 1);
            x.bring(1, 1);
            Check.due("how many", x.trace(-1, 0), Math.min(3 * i - 1, 40));
            x.leave(1);
            x.bring(1, 1);
        }
        Check.due("bringings", x.is(6), 69);
        for (int ago = 0; ago < 40; ago++) {
            Check.due("stamp", x.trace(ago, 3), 23 - ago / 3);
            Check.due("kind", x.trace(ago, 0), ago % 3 == 0 ? 5 : ago % 3 == 1 ? 1 : 0);
        }
        Check.due("trace(40, 0)", x.trace(40, 0), -2);
    }

    private static void means() {
        QuorumGate x = two();
        x.ask(0);
        Check.due("without entries", x.mean(), 0);
        x.goOn(0, 4);
        Check.due("4", x.mean(), Float.floatToIntBits(4.0f));
        x.goOn(0, 500);
        Check.due("6", x.mean(), Float.floatToIntBits(6.0f));
        x.ask(0);
        x.goOn(0, 500);
        x.ask(1);
        x.withdraw(1);
        x.goOn(0, 500);
        // Two times 6, and once 2 requests, 2 releases, 2 grants.
        Check.due("9", x.mean(), Float.floatToIntBits(9.0f));
        x.ask(1);
        x.goOn(0, 500);
        x.ask(1);
        Check.due("26 by 3", x.mean(), Float.floatToIntBits(26.0f / 3.0f));
        for (int i = 4; i < 40; i++) {
            x.goOn(0, 500);
            Check.due("each", x.mean(), Float.floatToIntBits((float) x.sent(6) / (float) i));
            x.ask(i % 2);
        }
    }

    private static void byRoots() {
        int[] roots = {0, 0, 1, 1, 2, 2, 2, 2, 2, 3, 3, 3, 3, 3, 3, 3, 4};
        for (int n = 2; n <= 16; n++) {
            QuorumGate x = new QuorumGate();
            x.majority(n);
            Check.due("without entries", x.byRoot(), 0);
            x.ask(0);
            x.goOn(n, 500);
            x.ask(1);
            x.goOn(n, 500);
            x.ask(1);
            x.withdraw(1);
            x.ask(1);
            x.goOn(n, 500);
            Check.due("entries", x.is(5), 3);
            double each = (double) x.sent(6) / 3.0 / roots[n];
            Check.due("of " + n, x.byRoot(), Double.doubleToLongBits(each));
        }
    }
}
