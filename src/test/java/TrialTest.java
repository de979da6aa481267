/** Promises 41 to 48: going on by draws, searching, a crowd, a clock. The answers due are worked out by hand. */
final class TrialTest {
    private static final int[] WRONG = {-1, 4, 16, Integer.MAX_VALUE, Integer.MIN_VALUE};

    private TrialTest() {
    }

    public static void main(String[] args) {
        goingOn();
        goingOnRefused();
        leavingByDraw();
        greatSeeds();
        entersBy();
        entersByTheLast();
        searchedOne();
        searchedTwo();
        searchedByThoseWhoAsked();
        searchedRefused();
        searchedUnlikeStates();
        soonest();
        delays();
        timedOne();
        timedInside();
        timedOnTheWay();
        timedByAge();
        timedByNumber();
        timedTooLong();
        timedRefused();
        crowds();
        crowdsWithBroken();
        crowdsInside();
        crowdsFromTheBeginning();
        crowdsRefused();
        nothingIsChanged();
        Check.end("TrialTest");
    }

    /** So many nodes, one in all bases. */
    private static QuorumGate all(int n, int arbiter) {
        return Gates.like(n, 1 << arbiter);
    }

    private static void traced(QuorumGate x, int ago, int kind, int from, int to) {
        Check.due("kind " + ago + " ago", x.trace(ago, 0), kind);
        Check.due("from " + ago + " ago", x.trace(ago, 1), from);
        Check.due("to " + ago + " ago", x.trace(ago, 2), to);
    }

    // By seed 1 the draws are of 16838, 5758, 10113, 17515, 31051, 5627, 23010, 7419, 16212, 4086.
    private static void goingOn() {
        QuorumGate x = new QuorumGate();
        x.ask(0);
        Check.due("goOn(1, 6)", x.goOn(1, 6), 6);
        traced(x, 5, 0, 0, 2);
        traced(x, 4, 0, 0, 1);
        traced(x, 3, 0, 0, 0);
        traced(x, 2, 1, 1, 0);
        traced(x, 1, 1, 2, 0);
        traced(x, 0, 1, 0, 0);
        Check.due("inside", x.is(2), 1);
        Check.due("goOn(1, 0)", x.goOn(1, 0), 0);
        Check.due("inside still", x.is(2), 1);
        // To leave; 5758 of 3, 10113 of 2: 1 and 1; then what is left.
        Check.due("goOn(1, 500)", x.goOn(1, 500), 4);
        traced(x, 2, 5, 0, 1);
        traced(x, 1, 5, 0, 2);
        traced(x, 0, 5, 0, 0);
        Check.due("nothing more", x.goOn(1, 500), 0);
        QuorumGate y = new QuorumGate();
        y.ask(0);
        Check.due("all at once", y.goOn(1, 500), 10);
        // To leave is the seventh; 7419 of 3: 0, 16212 of 2: 0.
        traced(y, 2, 5, 0, 0);
        traced(y, 1, 5, 0, 1);
        traced(y, 0, 5, 0, 2);
    }

    private static void goingOnRefused() {
        QuorumGate x = new QuorumGate();
        x.ask(0);
        Check.due("seed -1", x.goOn(-1, 5), -1);
        Check.due("seed below", x.goOn(Integer.MIN_VALUE, 5), -1);
        Check.due("times -1", x.goOn(0, -1), -1);
        Check.due("times 501", x.goOn(0, 501), -1);
        Check.due("times far", x.goOn(0, Integer.MAX_VALUE), -1);
        Check.due("times below", x.goOn(0, Integer.MIN_VALUE), -1);
        Check.due("nothing was done", x.is(6), 0);
        Check.due("times 500", x.goOn(0, 500), 10);
    }

    /** Leaving comes behind all pairs, rising. */
    private static void leavingByDraw() {
        QuorumGate x = Gates.alone(3);
        for (int v = 1; v < 3; v++) {
            x.ask(v);
            x.bring(v, v);
            x.bring(v, v);
        }
        x.ask(0);
        Check.due("moves", x.is(10), 3);
        // 16838 of 3 is 2: the last of (0, 0), 1 leaves, 2 leaves.
        x.goOn(1, 1);
        Check.due("2 left", x.is(2), 2);
        // Of (0, 0), (2, 2), 1 leaves.
        x.goOn(1, 1);
        Check.due("1 left", x.is(2), 0);
        // Of (0, 0), (1, 1), (2, 2); by seed 0 it is the first: 12345 / 65536 is 0.
        x.goOn(0, 1);
        traced(x, 0, 0, 0, 0);
    }

    private static void greatSeeds() {
        QuorumGate x = new QuorumGate();
        x.ask(0);
        // 12345 less 1103515245, modulo 2147483648: 1043980748; by 65536 it is 15929, and of 3 that is 2.
        x.goOn(Integer.MAX_VALUE, 1);
        traced(x, 0, 0, 0, 2);
        QuorumGate y = new QuorumGate();
        y.ask(0);
        // 1103515245 modulo 32768 is 20077, and of 3 that is 1.
        y.goOn(65536, 1);
        traced(y, 0, 0, 0, 1);
    }

    private static void entersBy() {
        QuorumGate x = new QuorumGate();
        Check.due("nobody asks", x.entersBy(0, 1), -1);
        x.ask(0);
        Check.due("six", x.entersBy(0, 1), 6);
        Check.due("by seed 0", x.entersBy(0, 0), 6);
        Check.due("another one", x.entersBy(1, 1), -1);
        x.bring(0, 2);
        Check.due("five", x.entersBy(0, 1), 5);
        x.goOn(1, 500);
        x.ask(0);
        x.goOn(1, 6);
        Check.due("it is", x.entersBy(0, 1), 0);
        Check.due("seed -1", x.entersBy(0, -1), -1);
        Check.due("seed below", x.entersBy(0, Integer.MIN_VALUE), -1);
        for (int v : WRONG) {
            Check.due("entersBy(" + v + ", 1)", x.entersBy(v, 1), -1);
        }
    }

    /** What was asked and withdrawn 166 times takes 3 moves each; then 2 more. */
    private static void entersByTheLast() {
        QuorumGate x = Gates.alone(2);
        for (int i = 0; i < 166; i++) {
            x.ask(0);
            x.withdraw(0);
        }
        x.ask(0);
        Check.due("the last", x.entersBy(0, 7), 500);
        x.withdraw(0);
        x.ask(0);
        Check.due("not by then", x.entersBy(0, 7), -1);
        x.bring(0, 0);
        x.bring(0, 0);
        Check.due("one too many", x.entersBy(0, 7), -1);
        x.bring(0, 0);
        Check.due("the last again", x.entersBy(0, 7), 500);
        Check.due("moves", x.goOn(7, 497), 497);
        Check.due("not yet", x.is(2), 0);
        Check.due("three more", x.entersBy(0, 7), 3);
    }

    private static void searched(QuorumGate x, String of, int askers, int states, int... want) {
        for (int what = 0; what < 6; what++) {
            int got = askers < 0 ? x.searched(states, what) : x.searchedBy(askers, states, what);
            Check.due(of + ": searched " + states + ", " + what, got, want[what]);
        }
    }

    /** States in a row: REQUEST, GRANT, inside, RELEASE, nothing. */
    private static void searchedOne() {
        QuorumGate x = Gates.alone(2);
        searched(x, "nothing", -1, 40, 1, 0, 0, 0, 1, 0);
        searched(x, "nothing", -1, 1, 1, 0, 0, 0, 1, 0);
        x.ask(0);
        searched(x, "one", -1, 40, 5, 0, 0, 1, 1, 4);
        searched(x, "one", -1, 5, 5, 0, 0, 1, 1, 4);
        searched(x, "one", -1, 4, 4, 0, 0, 1, 0, 3);
        searched(x, "one", -1, 1, 1, 0, 0, 1, 0, 0);
        searched(x, "one, by nobody", 0, 40, 5, 0, 0, 1, 1, 4);
        searched(x, "one, by nobody", 0, 1, 1, 0, 0, 1, 0, 0);
    }

    /** Two that have nothing to do with each other: 5 by 5 states, with asking 6 by 6. */
    private static void searchedTwo() {
        QuorumGate x = Gates.alone(2);
        searched(x, "both may ask", 3, 40, 36, 1, 0, 2, 1, 10);
        searched(x, "both may ask", 3, 36, 36, 1, 0, 2, 1, 10);
        // One by one they are met by moves: 1, 2, 3, 4, 5, 6, 5, 4, 3, 2, 1.
        searched(x, "both may ask", 3, 35, 35, 1, 0, 2, 0, 9);
        searched(x, "both may ask", 3, 4, 4, 0, 0, 1, 0, 2);
        searched(x, "one may ask", 1, 40, 6, 0, 0, 1, 1, 5);
        searched(x, "one may ask", 2, 40, 6, 0, 0, 1, 1, 5);
        searched(x, "nobody may", 0, 40, 1, 0, 0, 0, 1, 0);
        x.breakDown(1);
        searched(x, "a broken one can't", 3, 40, 6, 0, 0, 1, 1, 5);
        QuorumGate y = Gates.alone(2);
        y.ask(0);
        y.ask(1);
        searched(y, "both ask", -1, 40, 25, 1, 0, 2, 1, 8);
        searched(y, "both ask", -1, 24, 24, 1, 0, 2, 0, 7);
        y.goOn(0, 2);
        y.bring(1, 1);
        y.bring(1, 1);
        searched(y, "both inside", -1, 40, 9, 1, 0, 2, 1, 4);
    }

    /** Who is in may ask again once, by the stamp of now; the RELEASE may be on the way still. */
    private static void searchedByThoseWhoAsked() {
        QuorumGate x = Gates.alone(2);
        x.ask(0);
        searched(x, "once more", 1, 40, 11, 0, 0, 2, 1, 9);
        searched(x, "not more", -1, 40, 5, 0, 0, 1, 1, 4);
        x.goOn(0, 500);
        Check.due("idle", x.is(3) + x.is(2), 0);
        searched(x, "by the stamp of now", 1, 40, 6, 0, 0, 1, 1, 5);
    }

    private static void searchedRefused() {
        QuorumGate x = new QuorumGate();
        for (int states : new int[] {-1, 0, 41, 42, Integer.MAX_VALUE, Integer.MIN_VALUE}) {
            Check.due("searched(" + states + ", 0)", x.searched(states, 0), -1);
            Check.due("searchedBy(0, " + states + ", 0)", x.searchedBy(0, states, 0), -1);
            Check.due("soonest(0, " + states + ")", x.soonest(0, states), -1);
        }
        for (int what : new int[] {-1, 6, 7, Integer.MAX_VALUE, Integer.MIN_VALUE}) {
            Check.due("searched(40, " + what + ")", x.searched(40, what), -1);
            Check.due("searchedBy(1, 40, " + what + ")", x.searchedBy(1, 40, what), -1);
        }
        for (int askers : new int[] {-1, 16, 17, 1 << 20, Integer.MAX_VALUE, Integer.MIN_VALUE}) {
            Check.due("searchedBy(" + askers + ", 40, 0)", x.searchedBy(askers, 40, 0), -1);
        }
        Check.due("all may ask", x.searchedBy(15, 40, 0), 40);
    }

    /** What was counted makes no state unlike; what a letter's stamp or a clock is does. */
    private static void searchedUnlikeStates() {
        QuorumGate x = all(2, 0);
        x.ask(0);
        x.ask(1);
        Check.due("all were met", x.searched(40, 4), 1);
        Check.due("two inside", x.searched(40, 1), 0);
        Check.due("stuck", x.searched(40, 2), 0);
        QuorumGate y = Gates.alone(2);
        y.ask(0);
        y.withdraw(0);
        y.ask(0);
        // (0, 0): R1 L1 R2; L1 R2 G1; R2 G1; G1 G2; G2; inside; L2; nothing.
        searched(y, "in a row", -1, 40, 8, 0, 0, 3, 1, 7);
    }

    private static void soonest() {
        QuorumGate x = Gates.alone(2);
        Check.due("nobody asks", x.soonest(0, 40), -1);
        x.ask(0);
        Check.due("by two", x.soonest(0, 40), 2);
        Check.due("by two of three", x.soonest(0, 3), 2);
        Check.due("of two none", x.soonest(0, 2), -1);
        for (int states : new int[] {-1, 0, 41, 42, Integer.MAX_VALUE, Integer.MIN_VALUE}) {
            Check.due("soonest(0, " + states + ")", x.soonest(0, states), -1);
        }
        Check.due("the other", x.soonest(1, 40), -1);
        x.goOn(0, 2);
        Check.due("it is", x.soonest(0, 1), 0);
        for (int v : WRONG) {
            Check.due("soonest(" + v + ", 40)", x.soonest(v, 40), -1);
        }
        QuorumGate y = Gates.alone(2);
        y.ask(0);
        y.ask(1);
        y.bring(1, 1);
        Check.due("by one", y.soonest(1, 40), 1);
        Check.due("by two", y.soonest(0, 40), 2);
    }

    private static void delays() {
        QuorumGate x = Gates.alone(2);
        Check.due("way 1", x.delay(0, 0, 1), true);
        Check.due("way 9", x.delay(0, 1, 9), true);
        for (int way : new int[] {-1, 0, 10, 11, Integer.MAX_VALUE, Integer.MIN_VALUE}) {
            Check.due("way " + way, x.delay(0, 0, way), false);
        }
        for (int v : new int[] {-1, 2, 16, Integer.MAX_VALUE, Integer.MIN_VALUE}) {
            Check.due("from " + v, x.delay(v, 0, 1), false);
            Check.due("to " + v, x.delay(0, v, 1), false);
        }
        x.ask(0);
        Check.due("by 1", x.timed(1, 0, 3), 2);
        x.delay(0, 0, 9);
        Check.due("by 9", x.timed(1, 0, 3), 18);
        x.delay(0, 0, 2);
        Check.due("by 2", x.timed(1, 0, 3), 4);
        QuorumGate y = all(2, 1);
        y.delay(0, 1, 3);
        y.ask(0);
        Check.due("there by 3", y.timed(1, 0, 3), 4);
        y.delay(1, 0, 5);
        Check.due("there by 3, back by 5", y.timed(1, 0, 3), 8);
        Check.due("not asked anew by it", y.node(0, 2), 1);
    }

    private static void timed(QuorumGate x, String of, int hold, int node, int... want) {
        for (int what = 0; what < 5; what++) {
            Check.due(of + ": timed(" + hold + ", " + node + ", " + what + ")", x.timed(hold, node, what), want[what]);
        }
    }

    private static void timedOne() {
        QuorumGate x = Gates.alone(2);
        timed(x, "nothing", 5, 0, 0, 0, -1, -1, 1);
        x.ask(0);
        timed(x, "one", 1, 0, 4, 1, 2, 2, 4);
        timed(x, "one", 20, 0, 23, 1, 2, 2, 4);
        timed(x, "one", 20, 1, 23, 1, 2, -1, 4);
        x.delay(0, 0, 9);
        timed(x, "one by 9", 7, 0, 34, 1, 18, 18, 18 + 10);
        x.ask(1);
        timed(x, "two", 7, 1, 34, 2, 18, 2, 2 + 9 + 10);
        timed(x, "two", 7, 0, 34, 2, 18, 18, 2 + 9 + 10);
    }

    private static void timedInside() {
        QuorumGate x = Gates.alone(2);
        x.ask(0);
        x.goOn(0, 2);
        Check.due("inside", x.is(2), 1);
        timed(x, "from 0", 1, 0, 2, 0, -1, 0, 2);
        timed(x, "from 0", 20, 0, 21, 0, -1, 0, 2);
        x.ask(1);
        timed(x, "and another", 3, 1, 6, 1, 2, 2, 2);
        timed(x, "and another", 3, 0, 6, 1, 2, 0, 2);
        timed(x, "and another", 1, 1, 4, 1, 2, 2, 1 + 2);
    }

    private static void timedOnTheWay() {
        QuorumGate x = Gates.alone(2);
        x.ask(0);
        x.bring(0, 0);
        x.delay(0, 0, 4);
        timed(x, "letters there go at 0", 1, 0, 9, 1, 4, 4, 4 + 5);
        QuorumGate y = Gates.alone(2);
        y.ask(0);
        y.goOn(0, 2);
        y.leave(0);
        timed(y, "a RELEASE", 1, 0, 1, 0, -1, -1, 2);
        y.ask(0);
        timed(y, "and a REQUEST behind it", 1, 0, 4, 1, 2, 2, 4);
    }

    /** A REQUEST that went earlier, by a longer way, comes before a RELEASE that is due at the same time. */
    private static void timedByAge() {
        QuorumGate x = all(4, 2);
        x.ask(0);
        x.goOn(0, 2);
        x.ask(3);
        x.withdraw(3);
        Check.due("behind 1", x.ask(3), 2);
        x.bring(3, 2);
        x.bring(3, 2);
        x.bring(3, 2);
        Check.due("ahead of 3", x.ask(1), 1);
        x.delay(1, 2, 2);
        Check.due("1 first", x.timed(1, 1, 3), 3);
        Check.due("then 3", x.timed(1, 3, 3), 7);
        Check.due("all is over", x.timed(1, 3, 0), 9);
        x.delay(1, 2, 3);
        Check.due("too late", x.timed(1, 3, 3), 3);
        Check.due("1 behind", x.timed(1, 1, 3), 6);
    }

    /** Of those that went at one time the lesser one's comes first, whatever its stamp is. */
    private static void timedByNumber() {
        QuorumGate x = all(3, 2);
        x.ask(0);
        x.withdraw(0);
        x.goOn(0, 500);
        Check.due("later", x.ask(0), 2);
        Check.due("earlier", x.ask(1), 1);
        Check.due("0 first", x.timed(2, 0, 3), 2);
        // It leaves at 4, its RELEASE comes at 5, the GRANT at 6.
        Check.due("then 1", x.timed(2, 1, 3), 6);
        timed(x, "both", 2, 2, 9, 2, 6, -1, 6);
    }

    /** Sixteen by one arbiter, each 20 inside and 2 on the way. */
    private static void timedTooLong() {
        QuorumGate x = all(16, 0);
        for (int v = 0; v < 16; v++) {
            x.ask(v);
        }
        Check.due("not yet", x.timed(20, 0, 0), 300);
        Check.due("entries", x.timed(20, 0, 1), 14);
        Check.due("the last of them", x.timed(20, 0, 2), 288);
        Check.due("first", x.timed(20, 0, 3), 2);
        Check.due("last", x.timed(20, 13, 3), 288);
        Check.due("not by then", x.timed(20, 14, 3), -1);
        Check.due("nobody inside", x.timed(20, 0, 4), 28);
        Check.due("in time", x.timed(10, 15, 3), 2 + 15 * 12);
        Check.due("in time", x.timed(10, 15, 0), 2 + 15 * 12 + 11);
    }

    private static void timedRefused() {
        QuorumGate x = new QuorumGate();
        for (int hold : new int[] {-1, 0, 21, 22, Integer.MAX_VALUE, Integer.MIN_VALUE}) {
            for (int what = 0; what < 5; what++) {
                Check.due("timed(" + hold + ", 0, " + what + ")", x.timed(hold, 0, what), -1);
            }
        }
        for (int v : WRONG) {
            Check.due("timed(5, " + v + ", 0)", x.timed(5, v, 0), -1);
            Check.due("timed(5, " + v + ", 3)", x.timed(5, v, 3), -1);
        }
        for (int what : new int[] {-1, 5, 6, Integer.MAX_VALUE, Integer.MIN_VALUE}) {
            Check.due("timed(5, 0, " + what + ")", x.timed(5, 0, what), -1);
        }
        Check.due("timed(20, 3, 4)", x.timed(20, 3, 4), 1);
        Check.due("timed(1, 3, 4)", x.timed(1, 3, 4), 1);
    }

    private static void crowd(QuorumGate x, int seed, int times, int... want) {
        for (int what = 0; what < 6; what++) {
            Check.due("crowd(" + seed + ", " + times + ", " + what + ")", x.crowd(seed, times, what), want[what]);
        }
    }

    private static void crowds() {
        QuorumGate x = Gates.alone(2);
        crowd(x, 1, 0, 0, 0, 0, 0, 0, 0);
        // (0, 0): GRANT.
        crowd(x, 1, 1, 0, 0, 0, 0, 3, 0);
        // (0, 0): 0 is in.
        crowd(x, 1, 2, 1, 0, 1, 0, 3, 2);
        // 0 leaves; it asks again, (1, 1); (1, 1): 1 is in.
        crowd(x, 1, 5, 2, 1, 1, 0, 6, 4);
        // 1 leaves; it asks again, (0, 0); (1, 1); (0, 0); (0, 0): 0 is in.
        crowd(x, 1, 10, 3, 1, 2, 0, 9, 6);
        // By seed 0 the draws are of 0, 21468, 9988: (0, 0); (0, 0): 0 is in; (1, 1).
        crowd(x, 0, 2, 1, 0, 1, 0, 3, 2);
        crowd(x, 0, 3, 1, 0, 1, 0, 4, 2);
        Check.due("all is as ahead", x.is(3) + x.is(5) + x.sent(6), 0);
    }

    private static void crowdsWithBroken() {
        QuorumGate x = Gates.alone(2);
        x.breakDown(1);
        crowd(x, 1, 10, 3, 3, 3, 0, 3 + 3 + 2, 3);
        x.mend(1);
        x.breakDown(0);
        crowd(x, 1, 6, 2, 2, 2, 0, 5, 3);
        QuorumGate y = new QuorumGate();
        y.breakDown(0);
        y.breakDown(1);
        Check.due("nobody can ask", y.crowd(1, 500, 0) + y.crowd(1, 500, 4), 0);
        Check.due("the fewest", y.crowd(1, 500, 1), 0);
    }

    private static void crowdsInside() {
        QuorumGate x = Gates.alone(2);
        x.ask(0);
        x.goOn(0, 2);
        crowd(x, 1, 2, 1, 0, 1, 1, 2, 2);
        x.ask(1);
        x.bring(1, 1);
        x.bring(1, 1);
        Check.due("two inside", x.is(7), 1);
        Check.due("in that time alone", x.crowd(1, 0, 3), 0);
        Check.due("in that time alone", x.crowd(1, 0, 0), 0);
        Check.due("in that time alone", x.crowd(1, 0, 4), 0);
        Check.due("in that time alone", x.crowd(1, 0, 2), 0);
    }

    private static void crowdsFromTheBeginning() {
        QuorumGate x = Gates.alone(2);
        x.ask(1);
        for (int i = 0; i < 10; i++) {
            x.ask(0);
            x.goOn(0, 2);
            x.leave(0);
            x.goOn(0, 1);
        }
        Check.due("nobody waited long", x.is(9), 2);
        x.bring(1, 1);
        x.bring(1, 1);
        Check.due("1 waited", x.is(9), 32);
        Check.due("from the beginning on", x.crowd(1, 10, 5), 32);
        Check.due("from the beginning on", x.crowd(1, 0, 5), 32);
        QuorumGate y = Gates.alone(2);
        y.ask(1);
        y.ask(0);
        y.bring(0, 0);
        y.bring(0, 0);
        // 16838, 5758 of (1, 1), 0 leaves: 1 is in, having waited since it asked.
        Check.due("since it asked", y.crowd(1, 2, 5), 4);
    }

    private static void crowdsRefused() {
        QuorumGate x = new QuorumGate();
        Check.due("seed -1", x.crowd(-1, 5, 0), -1);
        Check.due("seed below", x.crowd(Integer.MIN_VALUE, 5, 0), -1);
        Check.due("times -1", x.crowd(1, -1, 0), -1);
        Check.due("times 501", x.crowd(1, 501, 0), -1);
        Check.due("times far", x.crowd(1, Integer.MAX_VALUE, 0), -1);
        for (int what : new int[] {-1, 6, 7, Integer.MAX_VALUE, Integer.MIN_VALUE}) {
            Check.due("what " + what, x.crowd(1, 5, what), -1);
        }
        Check.isTrue("times 500", x.crowd(Integer.MAX_VALUE, 500, 0) > 10);
        Check.due("one at a time", x.crowd(Integer.MAX_VALUE, 500, 3), 0);
    }

    /** Each of those that only tell what would be leaves all as it is, and answers the same again. */
    private static void nothingIsChanged() {
        for (int what = 0; what < 6; what++) {
            QuorumGate x = new QuorumGate();
            x.ask(3);
            x.goOn(2, 6);
            x.ask(1);
            x.ask(0);
            x.goOn(5, 4);
            x.delay(0, 1, 4);
            String before = Told.of(x);
            for (int again = 0; again < 2; again++) {
                Check.due("entersBy", x.entersBy(1, 3), x.entersBy(1, 3));
                Check.due("searched", x.searched(40, what), x.searched(40, what));
                Check.due("searchedBy", x.searchedBy(15, 40, what), x.searchedBy(15, 40, what));
                Check.due("soonest", x.soonest(0, 40), x.soonest(0, 40));
                Check.due("timed", x.timed(4, 1, what), x.timed(4, 1, what));
                Check.due("crowd", x.crowd(9, 300, what), x.crowd(9, 300, what));
            }
            Check.isTrue("all is as ahead", before.equals(Told.of(x)));
        }
    }
}
