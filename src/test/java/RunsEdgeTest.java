/**
 * The edges that Terms III, the clock and promises 41 to 50 name: none, the last, one too many, not yet, refused.
 * Each test bears the words it holds the program to.
 */
final class RunsEdgeTest {
    private static final int MIN = Integer.MIN_VALUE;
    private static final int MAX = Integer.MAX_VALUE;

    private RunsEdgeTest() {
    }

    public static void main(String[] args) {
        goingOnNotAtAll();
        goingOnToTheLast();
        goingOnBySeeds();
        drawnOfMoves();
        enteredBy();
        enteredByFiveHundred();
        searchedFromOneToForty();
        searchedWithoutMoves();
        searchedBySixteen();
        searchedByAskers();
        searchedUnlike();
        runWithVotesAndDoubts();
        runWithDoubtsOfOne();
        runWithFails();
        runWithAnInquiry();
        soonestOnes();
        delayedByPairs();
        timedHolds();
        timedWays();
        timedFirstAndLast();
        timedUpToThreeHundred();
        timedEntryAtThreeHundred();
        timedLeavingAtThreeHundred();
        timedWithBroken();
        crowdNotAtAll();
        crowdToTheLast();
        crowdWithBroken();
        crowdFromHere();
        meansWithoutEntries();
        meansBelowOne();
        meansOfMany();
        refusedRuns();
        Check.end("RunsEdgeTest");
    }

    /** 0, alone in its base, has asked and withdrawn so often: 3 MOVES each, one behind the other. */
    private static QuorumGate inARow(int times) {
        QuorumGate x = Gates.alone(2);
        for (int i = 0; i < times; i++) {
            x.ask(0);
            x.withdraw(0);
        }
        return x;
    }

    /** None: nothing more is done. */
    private static void goingOnNotAtAll() {
        QuorumGate x = new QuorumGate();
        Gates.unchanged("no MOVES", x, y -> y.goOn(7, 500), 0);
        x.ask(0);
        Gates.unchanged("0 times", x, y -> y.goOn(7, 0), 0);
        Check.due("once", x.goOn(7, 1), 1);
        Check.due("the rest, and no more", x.goOn(7, 500), 9);
        Gates.unchanged("no MOVES any more", x, y -> y.goOn(7, 500), 0);
    }

    /** 0 .. 500 times. */
    private static void goingOnToTheLast() {
        QuorumGate x = inARow(167);
        Check.due("MOVES there will be", x.is(1), 334);
        Gates.unchanged("501 times", x, y -> y.goOn(0, 501), -1);
        Check.due("500 times", x.goOn(0, 500), 500);
        Check.due("one is left", x.is(1), 1);
        Check.due("one", x.goOn(0, 500), 1);
        Check.due("none is left", x.is(1), 0);
        x = inARow(166);
        Check.due("fewer", x.goOn(0, 500), 498);
    }

    /** By a SEED (0 or more). */
    private static void goingOnBySeeds() {
        QuorumGate x = new QuorumGate();
        x.ask(0);
        for (int seed : new int[] {MIN, -65536, -2, -1}) {
            Gates.unchanged("seed " + seed, x, y -> y.goOn(seed, 5), -1);
            Gates.unchanged("seed " + seed, x, y -> y.goOn(seed, 0), -1);
            Gates.unchanged("seed " + seed, x, y -> y.entersBy(0, seed), -1);
            Gates.unchanged("seed " + seed, x, y -> y.crowd(seed, 5, 0), -1);
        }
        for (int seed : new int[] {0, 1, 65535, 1 << 30, MAX - 1, MAX}) {
            QuorumGate y = new QuorumGate();
            y.ask(0);
            Check.due("seed " + seed, y.entersBy(0, seed), 6);
            Check.due("seed " + seed, y.goOn(seed, 500), 10);
        }
    }

    /** g becomes (g * 1103515245 + 12345) modulo 2147483648; g / 65536 modulo m: whose letter is brought then. */
    private static void drawnOfMoves() {
        for (int seed : new int[] {0, 1, 2, 12345, 65536, 1 << 30, MAX - 1, MAX}) {
            QuorumGate x = Gates.alone(16);
            for (int v = 0; v < 16; v++) {
                x.ask(v);
            }
            java.math.BigInteger g = java.math.BigInteger.valueOf(seed);
            for (int i = 0; i < 20; i++) {
                g = g.multiply(java.math.BigInteger.valueOf(1103515245)).add(java.math.BigInteger.valueOf(12345))
                    .mod(java.math.BigInteger.ONE.shiftLeft(31));
            }
            x.goOn(seed, 19);
            // Of all that there are, by from, then those inside.
            int left = g.shiftRight(16).mod(java.math.BigInteger.valueOf(x.is(10))).intValue();
            int inside = x.is(2);
            int from = -1;
            for (int v = 0; v < 16 && left >= 0; v++) {
                if (x.way(v, v, -1) > 0) {
                    from = left == 0 ? v : from;
                    left--;
                }
            }
            QuorumGate y = Gates.alone(16);
            for (int v = 0; v < 16; v++) {
                y.ask(v);
            }
            y.goOn(seed, 20);
            if (from >= 0) {
                Check.due("seed " + seed + ": from", y.trace(0, 1), from);
                Check.due("seed " + seed + ": one more", y.is(6), x.is(6) + 1);
            } else {
                for (int v = 0; v < 16; v++) {
                    if ((inside >> v & 1) != 0) {
                        Check.due("seed " + seed + ": " + v + " left", y.is(2) >> v & 1, left == 0 ? 0 : 1);
                        left--;
                    }
                }
            }
        }
    }

    /** With how many MOVES a NODE is INSIDE (0: it is). NONE: not by then. */
    private static void enteredBy() {
        QuorumGate x = Gates.alone(2);
        Check.due("nobody asks", x.entersBy(0, 0), -1);
        x.ask(0);
        Gates.unchanged("by two", x, y -> y.entersBy(0, 0), 2);
        Gates.unchanged("the other", x, y -> y.entersBy(1, 0), -1);
        x.bring(0, 0);
        Gates.unchanged("by one", x, y -> y.entersBy(0, 0), 1);
        x.bring(0, 0);
        Gates.unchanged("it is", x, y -> y.entersBy(0, 0), 0);
        x.leave(0);
        Gates.unchanged("it was", x, y -> y.entersBy(0, 0), -1);
        x.breakDown(0);
        Gates.unchanged("broken", x, y -> y.entersBy(0, 0), -1);
        x.ask(1);
        x.withdraw(1);
        Gates.unchanged("withdrawn", x, y -> y.entersBy(1, 0), -1);
    }

    /** (500 times at most.) */
    private static void enteredByFiveHundred() {
        for (int more = 0; more < 4; more++) {
            QuorumGate x = inARow(166);
            x.ask(0);
            for (int i = 0; i < more; i++) {
                x.bring(0, 0);
            }
            Check.due("with so many", x.entersBy(0, 3), 500 - more);
        }
        QuorumGate x = inARow(167);
        x.bring(0, 0);
        x.ask(0);
        // 500 that come to nothing, then two.
        Check.due("with 502", x.entersBy(0, 3), -1);
        x.bring(0, 0);
        Check.due("with 501", x.entersBy(0, 3), -1);
        x.bring(0, 0);
        Check.due("with 500", x.entersBy(0, 3), 500);
    }

    private static void searched(QuorumGate x, String of, int askers, int states, int... want) {
        for (int what = 0; what < 6; what++) {
            int got = askers < 0 ? x.searched(states, what) : x.searchedBy(askers, states, what);
            Check.due(of + ": of " + states + ", " + what, got, want[what]);
        }
    }

    /** So many STATES at most (1 .. 40): no more are met than so many. */
    private static void searchedFromOneToForty() {
        // 3 a row of asking and withdrawing; 13 of these and what is now: 40.
        QuorumGate x = inARow(13);
        for (int states = 1; states <= 40; states++) {
            int all = states == 40 ? 1 : 0;
            searched(x, "forty", -1, states, states, 0, 0, 26, all, states - 1);
            searched(x, "forty", 0, states, states, 0, 0, 26, all, states - 1);
        }
        for (int states : new int[] {MIN, -1, 0, 41, 42, MAX}) {
            Gates.unchanged("searched(" + states + ", 0)", x, y -> y.searched(states, 0), -1);
            Gates.unchanged("searchedBy(0, " + states + ", 0)", x, y -> y.searchedBy(0, states, 0), -1);
            Gates.unchanged("soonest(0, " + states + ")", x, y -> y.soonest(0, states), -1);
        }
        x = inARow(12);
        searched(x, "thirty-seven", -1, 40, 37, 0, 0, 24, 1, 36);
        searched(x, "thirty-seven", -1, 37, 37, 0, 0, 24, 1, 36);
        searched(x, "thirty-seven", -1, 36, 36, 0, 0, 24, 0, 35);
        x = inARow(14);
        searched(x, "forty-three", -1, 40, 40, 0, 0, 28, 0, 39);
    }

    /** STUCK: no MOVES, somebody ASKING. */
    private static void searchedWithoutMoves() {
        QuorumGate x = Gates.alone(2);
        searched(x, "nobody asking", -1, 1, 1, 0, 0, 0, 1, 0);
        searched(x, "nobody asking", 0, 40, 1, 0, 0, 0, 1, 0);
        searched(x, "to ask is a MOVE", 1, 1, 1, 0, 0, 0, 0, 0);
        x.ask(0);
        searched(x, "letters are MOVES", -1, 1, 1, 0, 0, 1, 0, 0);
        x.goOn(0, 2);
        searched(x, "to leave is a MOVE", -1, 1, 1, 0, 0, 0, 0, 0);
        searched(x, "inside", -1, 40, 3, 0, 0, 1, 1, 2);
        x.ask(1);
        x.goOn(0, 1);
        x.bring(1, 1);
        x.bring(1, 1);
        QuorumGate y = Gates.alone(16);
        for (int v = 0; v < 16; v++) {
            y.breakDown(v);
        }
        searched(y, "all broken", 65535, 40, 1, 0, 0, 0, 1, 0);
    }

    /** With two or more INSIDE; the most LETTERS. */
    private static void searchedBySixteen() {
        QuorumGate x = Gates.alone(16);
        for (int v = 0; v < 16; v++) {
            x.ask(v);
            x.bring(v, v);
            x.bring(v, v);
        }
        // Now; each of sixteen left; then of the first left each other one, of the second each behind it, and so on.
        searched(x, "all inside", -1, 40, 40, 40, 0, 2, 0, 2);
        searched(x, "all inside", -1, 17, 17, 17, 0, 1, 0, 1);
        searched(x, "all inside", -1, 1, 1, 1, 0, 0, 0, 0);
        QuorumGate y = Gates.alone(2);
        y.ask(0);
        y.goOn(0, 2);
        y.ask(1);
        y.bring(1, 1);
        // One inside, the other by one MOVE: two; each then leaves, and its RELEASE is brought.
        Check.due("one inside", y.searched(1, 1), 0);
        searched(y, "two inside by one", -1, 40, 12, 1, 0, 2, 1, 5);
        y.bring(1, 1);
        searched(y, "two inside", -1, 40, 9, 1, 0, 2, 1, 4);
    }

    /** ASKERS, a set of NODES: each that can ASK and has its STAMP of now (before SEARCHED). */
    private static void searchedByAskers() {
        QuorumGate x = Gates.alone(16);
        for (int askers : new int[] {MIN, -65536, -1, 65536, 65537, 1 << 20, MAX}) {
            Gates.unchanged("askers " + askers, x, y -> y.searchedBy(askers, 40, 0), -1);
        }
        Gates.unchanged("nobody", x, y -> y.searchedBy(0, 40, 0), 1);
        Gates.unchanged("everybody", x, y -> y.searchedBy(65535, 40, 0), 40);
        Gates.unchanged("everybody", x, y -> y.searchedBy(65535, 17, 3), 1);
        Gates.unchanged("everybody", x, y -> y.searchedBy(65535, 17, 4), 0);
        for (int v = 0; v < 16; v++) {
            searched(x, "one of sixteen", 1 << v, 40, 6, 0, 0, 1, 1, 5);
        }
        x = Gates.like(2, 2);
        x.breakDown(1);
        searched(x, "without a QUORUM", 3, 40, 1, 0, 0, 0, 1, 0);
        x = Gates.alone(2);
        x.ask(0);
        x.goOn(0, 2);
        // It is inside: when it has left it can ask again, and never more. The RELEASE may be ahead of the REQUEST.
        searched(x, "inside", 1, 40, 9, 0, 0, 2, 1, 7);
        searched(x, "inside, not of the set", 2, 2, 2, 0, 0, 1, 0, 1);
    }

    /** What comes of it is met, if it is unlike all that were. */
    private static void searchedUnlike() {
        QuorumGate x = Gates.alone(2);
        x.ask(0);
        x.ask(1);
        // Five STATES each, in any order: both ways round lead to one.
        searched(x, "each by itself", -1, 40, 25, 1, 0, 2, 1, 8);
        QuorumGate z = inARow(2);
        // REQUEST, RELEASE, GRANT as before, by another STAMP.
        searched(z, "by STAMPS", -1, 40, 7, 0, 0, 4, 1, 6);
    }

    /** From now on: FAIL to 1, that has DOUBTS; its YIELD; GRANT to 0, that has the other of its VOTES. */
    private static void runWithVotesAndDoubts() {
        QuorumGate x = Gates.like(2, 3);
        x.ask(1);
        x.ask(0);
        x.bring(1, 1);
        x.bring(0, 1);
        x.bring(1, 1);
        x.bring(1, 1);
        x.bring(0, 0);
        x.bring(1, 0);
        x.bring(0, 0);
        Check.due("VOTES of 0", x.node(0, 3), 1);
        Check.due("DOUBTS of 1", x.node(1, 4), 2);
        Check.due("one letter", x.is(1), 1);
        Gates.unchanged("0 is in", x, y -> y.entersBy(0, 1), 3);
        Gates.unchanged("0 is in", x, y -> y.soonest(0, 40), 3);
        Gates.unchanged("0 is in", x, y -> y.timed(1, 0, 3), 3);
        Gates.unchanged("two entries", x, y -> y.timed(1, 0, 1), 2);
        Gates.unchanged("all STATES", x, y -> y.searched(40, 4), 1);
    }

    /** FAIL to 2, that doubts one of its two VOTES; YIELD of this, GRANT; of the other REQUEST, INQUIRE, YIELD, GRANT. */
    private static void runWithDoubtsOfOne() {
        QuorumGate x = Gates.like(3, 7);
        x.ask(2);
        x.bring(2, 1);
        x.bring(1, 2);
        x.bring(2, 2);
        x.bring(2, 2);
        x.ask(0);
        x.bring(0, 2);
        x.bring(2, 2);
        x.bring(0, 0);
        x.bring(2, 0);
        x.bring(0, 0);
        Check.due("VOTES of 2", x.node(2, 3), 6);
        Check.due("DOUBTS of 2", x.node(2, 4), 4);
        Check.due("letters", x.is(1), 2);
        Gates.unchanged("0 is in", x, y -> y.soonest(0, 40), 7);
        Gates.unchanged("2 is not", x, y -> y.soonest(2, 10), -1);
        // REQUEST and FAIL at 1; INQUIRE and YIELD at 2; YIELD and GRANT at 3; GRANT at 4.
        Gates.unchanged("0 is in", x, y -> y.timed(1, 0, 3), 4);
    }

    /** INQUIRE to 1, that has FAILS; its YIELD; GRANT to 0. */
    private static void runWithFails() {
        QuorumGate x = Gates.like(2, 3);
        x.ask(0);
        x.ask(1);
        x.bring(0, 0);
        x.bring(1, 1);
        x.bring(0, 1);
        x.bring(1, 0);
        x.bring(0, 1);
        x.bring(1, 1);
        x.bring(0, 0);
        Check.due("FAILS of 1", x.node(1, 5), 1);
        Check.due("VOTES of 1", x.node(1, 3), 2);
        Check.due("one letter", x.is(1), 1);
        Gates.unchanged("0 is in", x, y -> y.entersBy(0, 1), 3);
        Gates.unchanged("0 is in", x, y -> y.soonest(0, 40), 3);
        Gates.unchanged("0 is in", x, y -> y.timed(1, 0, 3), 3);
        Check.due("0 is in", x.goOn(1, 3), 3);
        Check.due("0 is in", x.is(2), 1);
    }

    /** An arbiter that INQUIRED inquires no more, by a run either. */
    private static void runWithAnInquiry() {
        QuorumGate x = Gates.like(3, 4);
        x.ask(2);
        x.ask(1);
        x.ask(0);
        x.bring(2, 2);
        x.bring(1, 2);
        Check.due("it INQUIRED", x.arbiter(2, 2), 1);
        Check.due("GRANT, INQUIRE, REQUEST", x.is(1), 3);
        Gates.unchanged("never more letters than now", x, y -> y.searched(40, 3), 3);
        // All ask already; the first MOVE is that of 0's REQUEST: a FAIL to 1.
        Gates.unchanged("a FAIL alone", x, y -> y.crowd(0, 1, 4), 1);
        Check.due("that MOVE", x.goOn(0, 1), 1);
        Check.due("that MOVE", x.trace(0, 1), 0);
        Check.due("one INQUIRE", x.sent(3), 1);
    }

    /** The fewest MOVES with which a NODE is INSIDE in one. NONE: in none. */
    private static void soonestOnes() {
        QuorumGate x = Gates.alone(16);
        for (int v = 0; v < 16; v++) {
            Gates.unchanged("in none", x, y -> y.soonest(0, 40), -1);
        }
        x.ask(15);
        Check.due("of three", x.soonest(15, 3), 2);
        Check.due("of two in none", x.soonest(15, 2), -1);
        Check.due("of one in none", x.soonest(15, 1), -1);
        Check.due("another", x.soonest(14, 40), -1);
        x.goOn(0, 2);
        Check.due("it is", x.soonest(15, 1), 0);
        x.leave(15);
        Check.due("it was", x.soonest(15, 40), -1);
        QuorumGate y = inARow(12);
        y.ask(0);
        Check.due("the last but one of forty", y.soonest(0, 40), 38);
        Check.due("of as many as are needed", y.soonest(0, 39), 38);
        Check.due("of one fewer", y.soonest(0, 38), -1);
        y.withdraw(0);
        y.ask(0);
        Check.due("of forty not", y.soonest(0, 40), -1);
    }

    /** WAY from one to another one, by pairs: 1 .. 9. */
    private static void delayedByPairs() {
        for (int way = 1; way <= 9; way++) {
            QuorumGate x = Gates.like(16, 1 << 15);
            Check.due("way " + way, x.delay(0, 15, way), true);
            x.ask(0);
            Check.due("there by " + way, x.timed(1, 0, 3), way + 1);
            Check.due("back by " + way, x.delay(15, 0, way), true);
            Check.due("there and back by " + way, x.timed(1, 0, 3), 2 * way);
            QuorumGate y = Gates.like(16, 1 << 15);
            y.ask(14);
            y.delay(13, 15, way);
            y.delay(14, 14, way);
            y.delay(15, 13, way);
            y.delay(15, 15, way);
            Check.due("other pairs are as they were", y.timed(1, 14, 3), 2);
        }
        QuorumGate x = Gates.alone(2);
        x.ask(1);
        Check.due("to itself the same", x.delay(1, 1, 9), true);
        Check.due("to itself the same", x.timed(1, 1, 3), 18);
        for (int way : new int[] {MIN, -9, -1, 0, 10, 11, 16, MAX}) {
            Check.due("way " + way, x.delay(1, 1, way), false);
            Check.due("as it was behind way " + way, x.timed(1, 1, 3), 18);
        }
        for (int v : new int[] {MIN, -1, 2, 3, 16, 17, MAX}) {
            Check.due("from " + v, x.delay(v, 1, 1), false);
            Check.due("to " + v, x.delay(1, v, 1), false);
            Check.due("from and to " + v, x.delay(v, v, 1), false);
            Check.due("as it was behind " + v, x.timed(1, 1, 3), 18);
        }
        x.delay(1, 1, 1);
        Check.due("told anew", x.timed(1, 1, 3), 2);
        x.goOn(0, 500);
        x.delay(1, 1, 5);
        x.ask(1);
        Check.due("ways stay as long as NODES do", x.timed(1, 1, 3), 10);
    }

    private static void timed(QuorumGate x, String of, int hold, int node, int... want) {
        for (int what = 0; what < 5; what++) {
            Check.due(of + ": timed(" + hold + ", " + node + ", " + what + ")", x.timed(hold, node, what), want[what]);
        }
    }

    /** Stays HOLD TIMES (1 .. 20), from 0, or from the TIME at which it came to be so. */
    private static void timedHolds() {
        for (int hold = 1; hold <= 20; hold++) {
            QuorumGate x = Gates.alone(2);
            timed(x, "nothing", hold, 1, 0, 0, -1, -1, 1);
            x.ask(0);
            // In at 2, out at 2 and HOLD, the RELEASE one later: 0, 1 and these two nobody is in.
            timed(x, "one", hold, 0, hold + 3, 1, 2, 2, 4);
            timed(x, "one", hold, 1, hold + 3, 1, 2, -1, 4);
            x.goOn(0, 2);
            timed(x, "inside", hold, 0, hold + 1, 0, -1, 0, 2);
            timed(x, "inside", hold, 1, hold + 1, 0, -1, -1, 2);
        }
        QuorumGate x = Gates.alone(2);
        x.ask(0);
        for (int hold : new int[] {MIN, -1, 0, 21, 22, MAX}) {
            for (int what = 0; what < 5; what++) {
                int w = what;
                Gates.unchanged("hold " + hold, x, y -> y.timed(hold, 0, w), -1);
            }
        }
    }

    /** A LETTER takes WAY TIMES; LETTERS there are go at TIME 0. */
    private static void timedWays() {
        for (int way = 1; way <= 9; way++) {
            QuorumGate x = Gates.alone(2);
            x.delay(0, 0, way);
            x.ask(0);
            timed(x, "by " + way, 1, 0, 3 * way + 1, 1, 2 * way, 2 * way, 3 * way + 1);
            x.bring(0, 0);
            timed(x, "half of it by " + way, 1, 0, 2 * way + 1, 1, way, way, 2 * way + 1);
            x.bring(0, 0);
            timed(x, "back by " + way, 1, 0, way + 1, 0, -1, 0, way + 1);
            x.leave(0);
            timed(x, "only back by " + way, 1, 0, way, 0, -1, -1, way + 1);
            x.bring(0, 0);
            timed(x, "nothing", 1, 0, 0, 0, -1, -1, 1);
        }
    }

    private static void timedFirstAndLast() {
        QuorumGate x = Gates.like(16, 1);
        for (int v = 0; v < 16; v++) {
            x.ask(v);
        }
        // By its one arbiter one behind the other: in, HOLD, RELEASE, GRANT.
        for (int v = 0; v < 16; v++) {
            Check.due("each in its turn", x.timed(1, v, 3), 2 + 3 * v);
        }
        timed(x, "all", 1, 15, 49, 16, 47, 47, 50 - 16);
        Check.due("nothing was done", x.is(5), 0);
    }

    /** So many one behind the other by HOLD 20, the last by ways of its own. */
    private static QuorumGate oneBehindTheOther(int n, int there, int back) {
        QuorumGate x = Gates.like(n, 1);
        for (int v = 0; v < n; v++) {
            x.ask(v);
        }
        x.delay(0, n - 1, there);
        x.delay(n - 1, 0, back);
        return x;
    }

    /** 300 is no TIME that is gone through: it tells that it isn't over by 299. */
    private static void timedUpToThreeHundred() {
        // The last one's RELEASE comes at 1 + 12 * 22 + 9 + 20 + 5, and each of 13 was in for 20.
        timed(oneBehindTheOther(13, 9, 4), "298", 20, 12, 298, 13, 274, 274, 299 - 260);
        timed(oneBehindTheOther(13, 9, 5), "299", 20, 12, 299, 13, 274, 274, 300 - 260);
        timed(oneBehindTheOther(13, 9, 6), "300", 20, 12, 300, 13, 274, 274, 300 - 260);
        timed(oneBehindTheOther(13, 9, 7), "301", 20, 12, 300, 13, 274, 274, 300 - 260);
        timed(oneBehindTheOther(16, 1, 1), "not yet", 20, 15, 300, 14, 288, -1, 300 - 13 * 20 - 12);
        timed(oneBehindTheOther(16, 1, 1), "not yet", 20, 0, 300, 14, 288, 2, 300 - 13 * 20 - 12);
    }

    private static void timedEntryAtThreeHundred() {
        // The fourteenth comes at 2 + 13 * 22 = 288, by its way of 9 and that of the one ahead of it later.
        for (int more = 2; more <= 6; more++) {
            QuorumGate x = oneBehindTheOther(14, 9, 1);
            x.delay(0, 12, more);
            int due = 288 + 8 + more - 1;
            boolean yet = due <= 299;
            timed(x, "at " + due, 20, 13, 300, yet ? 14 : 13, yet ? due : 266 + more - 1, yet ? due : -1,
                300 - 260 - (yet ? 300 - due : 0));
        }
    }

    private static void timedLeavingAtThreeHundred() {
        // In at 2, and each 2 and HOLD behind the one ahead of it: by 18 the fifteenth leaves at 300.
        timed(Gates.allAsked(15), "300", 18, 14, 300, 15, 282, 282, 30);
        timed(Gates.allAsked(16), "300", 18, 15, 300, 15, 282, -1, 30);
        // The thirteenth comes at 274, by the way of the one ahead of it later; its RELEASE comes behind 300.
        for (int more = 0; more <= 8; more++) {
            QuorumGate x = oneBehindTheOther(13, 9, 9);
            x.delay(0, 11, 1 + more);
            int leaves = 294 + more;
            boolean yet = leaves <= 299;
            timed(x, "out at " + leaves, 20, 12, 300, 13, leaves - 20, leaves - 20,
                300 - 12 * 20 - (yet ? 20 : 300 - (leaves - 20)));
        }
    }

    private static void timedWithBroken() {
        QuorumGate x = new QuorumGate();
        x.ask(0);
        x.breakDown(3);
        Check.due("asks as before", x.node(0, 2), 1);
        timed(x, "one broken", 5, 0, 8, 1, 2, 2, 4);
        timed(x, "the broken one", 5, 3, 8, 1, 2, -1, 4);
        x.breakDown(1);
        timed(x, "no QUORUM: RELEASES", 5, 0, 2, 0, -1, -1, 3);
        x.goOn(0, 500);
        timed(x, "nothing", 5, 0, 0, 0, -1, -1, 1);
    }

    private static void crowd(QuorumGate x, String of, int seed, int times, int... want) {
        for (int what = 0; what < 6; what++) {
            int w = what;
            Gates.unchanged(of + ": crowd(.., " + what + ")", x, y -> y.crowd(seed, times, w), want[w]);
        }
    }

    private static void crowdNotAtAll() {
        QuorumGate x = new QuorumGate();
        crowd(x, "0 times", 3, 0, 0, 0, 0, 0, 0, 0);
        crowd(x, "0 times", 0, 0, 0, 0, 0, 0, 0, 0);
        crowd(x, "0 times", MAX, 0, 0, 0, 0, 0, 0, 0);
        crowd(x, "once: all ask, then a MOVE", 0, 1, 0, 0, 0, 0, 13, 0);
        QuorumGate y = Gates.alone(16);
        crowd(y, "once: all ask, then a MOVE", 0, 1, 0, 0, 0, 0, 17, 0);
    }

    /** 0 .. 500 times. */
    private static void crowdToTheLast() {
        QuorumGate x = Gates.alone(2);
        x.breakDown(1);
        // One alone: REQUEST, GRANT, to leave; then REQUEST or RELEASE first makes no matter: 4 for each entry.
        int[] entries = new int[501];
        for (int times = 0; times <= 500; times++) {
            entries[times] = x.crowd(5, times, 0);
            Check.isTrue("no fewer by one more", times == 0 || entries[times] >= entries[times - 1]);
        }
        Check.due("by 2 the first", entries[1] + 10 * entries[2], 10);
        Check.due("one by 4 MOVES", entries[500], 125);
        Check.due("of the one", x.crowd(5, 500, 1), 125);
        Check.due("of the one", x.crowd(5, 500, 2), 125);
        for (int times : new int[] {MIN, -1, 501, 502, MAX}) {
            for (int what = 0; what < 6; what++) {
                int w = what;
                Gates.unchanged("times " + times, x, y -> y.crowd(5, times, w), -1);
            }
        }
    }

    /** Of a NODE that isn't BROKEN. */
    private static void crowdWithBroken() {
        QuorumGate x = Gates.alone(2);
        x.breakDown(0);
        crowd(x, "the first broken", 1, 2, 1, 1, 1, 0, 2, 2);
        x = Gates.alone(16);
        for (int v = 0; v < 15; v++) {
            x.breakDown(v);
        }
        crowd(x, "all but the last broken", 1, 2, 1, 1, 1, 0, 2, 2);
        x.breakDown(15);
        // There is no NODE that isn't: NONE.
        crowd(x, "all broken", 1, 500, 0, -1, 0, 0, 0, 0);
        QuorumGate y = Gates.like(3, 1);
        y.breakDown(0);
        crowd(y, "nobody has a QUORUM", 1, 500, 0, 0, 0, 0, 0, 0);
    }

    /** In that time; from the beginning on. */
    private static void crowdFromHere() {
        QuorumGate x = Gates.alone(2);
        x.ask(0);
        x.ask(1);
        x.bring(0, 0);
        x.bring(1, 1);
        x.bring(0, 0);
        x.bring(1, 1);
        Check.due("two inside", x.is(7), 1);
        Check.due("the most waited", x.is(9), 4);
        crowd(x, "in that time nothing", 3, 0, 0, 0, 0, 0, 0, 4);
        // 1 of 2 leaves: a RELEASE.
        crowd(x, "one leaves", 0, 1, 0, 0, 0, 0, 1, 4);
        QuorumGate y = Gates.alone(2);
        y.breakDown(1);
        y.ask(0);
        y.bring(0, 0);
        // It asks already; by one MOVE it is in.
        crowd(y, "who asks asks not again", 0, 1, 1, 1, 1, 0, 0, 2);
        QuorumGate z = inARow(10);
        z.goOn(0, 30);
        z.breakDown(1);
        z.ask(0);
        z.bring(0, 0);
        Check.due("BRINGINGS before and now", z.is(6), 31);
        crowd(z, "since it asked", 0, 1, 1, 1, 1, 0, 0, 2);
    }

    /** 0 without entries. */
    private static void meansWithoutEntries() {
        QuorumGate x = Gates.alone(2);
        Check.due("nothing sent", x.mean(), 0);
        Check.due("nothing sent", x.byRoot(), 0);
        x.ask(0);
        x.bring(0, 0);
        Check.due("sent, no entry", x.mean(), 0);
        Check.due("sent, no entry", x.byRoot(), 0);
        x.bring(0, 0);
        Check.due("an entry", x.mean(), Float.floatToIntBits(2.0f));
        Check.due("an entry", x.byRoot(), Double.doubleToLongBits(2.0));
        x.base(0, 1);
        Check.due("made anew", x.mean(), 0);
        Check.due("made anew", x.byRoot(), 0);
    }

    /** Less than one for each: two LETTERS by a root of 3, of 4. */
    private static void meansBelowOne() {
        for (int n = 2; n <= 16; n++) {
            QuorumGate x = Gates.alone(n);
            x.ask(0);
            x.goOn(0, 2);
            int root = n >= 16 ? 4 : n >= 9 ? 3 : n >= 4 ? 2 : 1;
            Check.due("mean of " + n, x.mean(), Float.floatToIntBits(2.0f));
            Check.due("by the root of " + n, x.byRoot(), Double.doubleToLongBits(2.0 / root));
        }
    }

    /** As floats, as doubles: bits. By the whole root of how many NODES there are (downward). */
    private static void meansOfMany() {
        int[] roots = {0, 0, 1, 1, 2, 2, 2, 2, 2, 3, 3, 3, 3, 3, 3, 3, 4};
        for (int n = 2; n <= 16; n++) {
            QuorumGate x = Gates.alone(n);
            for (int i = 1; i <= 24; i++) {
                x.ask(n - 1);
                x.withdraw(n - 1);
                x.ask(i % n);
                x.goOn(i, 500);
                float mean = (float) x.sent(6) / (float) i;
                double byRoot = (double) x.sent(6) / (double) i / (double) roots[n];
                Check.due("mean of " + n, x.mean(), Float.floatToIntBits(mean));
                Check.due("by the root of " + n, x.byRoot(), Double.doubleToLongBits(byRoot));
            }
        }
        QuorumGate x = Gates.like(16, 65535);
        for (int i = 0; i < 200; i++) {
            x.ask(0);
            x.withdraw(0);
        }
        x.goOn(0, 500);
        for (int i = 0; i < 30; i++) {
            x.goOn(i, 500);
        }
        x.ask(0);
        x.goOn(0, 500);
        Check.due("entries", x.is(5), 1);
        Check.due("thousands for one", x.mean(), Float.floatToIntBits(3.0f * 16 * 201));
        Check.due("thousands for one", x.byRoot(), Double.doubleToLongBits(3.0 * 4 * 201));
    }

    private static void refusedRuns() {
        QuorumGate x = new QuorumGate();
        x.ask(0);
        x.goOn(1, 7);
        x.ask(3);
        x.delay(0, 0, 3);
        for (int v : new int[] {MIN, -2, -1, 4, 5, 16, 32, MAX}) {
            Gates.unchanged("entersBy(" + v + ", 0)", x, y -> y.entersBy(v, 0), -1);
            Gates.unchanged("soonest(" + v + ", 40)", x, y -> y.soonest(v, 40), -1);
            Gates.unchanged("delay(" + v + ", 0, 9)", x, y -> y.delay(v, 0, 9) ? 1 : 0, 0);
            Gates.unchanged("delay(0, " + v + ", 9)", x, y -> y.delay(0, v, 9) ? 1 : 0, 0);
            for (int what = 0; what < 5; what++) {
                int w = what;
                Gates.unchanged("timed(1, " + v + ", " + what + ")", x, y -> y.timed(1, v, w), -1);
            }
        }
        for (int way : new int[] {MIN, -1, 0, 10, 11, MAX}) {
            Gates.unchanged("delay(0, 0, " + way + ")", x, y -> y.delay(0, 0, way) ? 1 : 0, 0);
        }
        for (int what : new int[] {MIN, -2, -1, 6, 7, MAX}) {
            Gates.unchanged("searched(40, " + what + ")", x, y -> y.searched(40, what), -1);
            Gates.unchanged("searchedBy(15, 40, " + what + ")", x, y -> y.searchedBy(15, 40, what), -1);
            Gates.unchanged("crowd(1, 500, " + what + ")", x, y -> y.crowd(1, 500, what), -1);
        }
        for (int what : new int[] {MIN, -2, -1, 5, 6, MAX}) {
            Gates.unchanged("timed(1, 0, " + what + ")", x, y -> y.timed(1, 0, what), -1);
        }
        for (int times : new int[] {MIN, -2, -1, 501, 502, MAX}) {
            Gates.unchanged("goOn(0, " + times + ")", x, y -> y.goOn(0, times), -1);
        }
    }
}
