/**
 * The edges that Terms II and promises 23 to 40 name: nobody, everybody, first, last, full, too far, refused.
 * Each test bears the words it holds the program to.
 */
final class AskEdgeTest extends Seen {
    private static final int MIN = Integer.MIN_VALUE;
    private static final int MAX = Integer.MAX_VALUE;
    private static final int[] NO_NODES = {MIN, -2, -1, 4, 5, 16, 31, 32, MAX};

    private AskEdgeTest() {
    }

    public static void main(String[] args) {
        askedOnlyWhenItCan();
        askedBySixteen();
        askedByOneOutsideItsBase();
        leftOnlyInside();
        leftWithNothingInUse();
        withdrawnOnlyAsking();
        brokenOnlyIdle();
        brokenOneByOneToNone();
        lettersOfABrokenOne();
        brokenOneForgottenByEach();
        brokenKeepsItsNumbers();
        askedAgainRising();
        mendedOnlyWhenStill();
        clockIsTheGreater();
        firstInOrder();
        allWaitAtOne();
        allWaitAtOneBackwards();
        inquiryOfOneInside();
        grantOfOneInside();
        failWithoutDoubts();
        releaseWithNobodyWaiting();
        allInsideAtOnce();
        nobodyAtFirst();
        lettersToItself();
        bookOfThirty();
        traceOfForty();
        overtakingByStamps();
        roundOfSixteen();
        awaitedAndUnheard();
        crowdedOnes();
        mostOfEntries();
        sentAndHandled();
        refusedNodes();
        refusedWhats();
        Check.end("AskEdgeTest");
    }

    /** To ASK, being IDLE, not BROKEN, with a QUORUM. NONE: it can't be. */
    private static void askedOnlyWhenItCan() {
        QuorumGate x = new QuorumGate();
        Check.due("idle", x.ask(0), 1);
        Gates.unchanged("asking", x, y -> y.ask(0), -1);
        x.goOn(1, 6);
        Check.due("inside", x.node(0, 0), 2);
        Gates.unchanged("inside", x, y -> y.ask(0), -1);
        x.leave(0);
        Check.due("idle again", x.ask(0), 2);
        x.breakDown(3);
        Gates.unchanged("broken", x, y -> y.ask(3), -1);
        x.breakDown(2);
        Gates.unchanged("without QUORUM", x, y -> y.ask(1), -1);
        Gates.unchanged("without QUORUM, being IDLE by it", x, y -> y.ask(0), -1);
        QuorumGate t = new QuorumGate();
        t.tree(2);
        t.breakDown(1);
        Check.due("by another QUORUM", t.ask(0), 1);
        Check.due("by another QUORUM", t.quorum(0, 2), 5);
        t.breakDown(2);
        Check.due("none any more", t.node(0, 0), 0);
        Gates.unchanged("none: a TREE, too", t, y -> y.ask(0), -1);
    }

    private static void askedBySixteen() {
        QuorumGate x = Gates.like(16, 65535);
        for (int v = 0; v < 16; v++) {
            Check.due("each one's STAMP", x.ask(v), 1);
            Check.due("REQUEST to all IN USE", x.is(1), 16 * (v + 1));
            Check.due("the last one's", x.way(v, 15, 0), REQUEST);
        }
        Check.due("all ask", x.is(3), 65535);
        Check.due("MOVES by all pairs", x.is(10), 256);
        Check.due("sent", x.sent(REQUEST), 256);
    }

    /** Of a WHEEL 0 isn't in its own BASE: it has no letter to itself. */
    private static void askedByOneOutsideItsBase() {
        QuorumGate x = new QuorumGate();
        x.wheel(3);
        x.ask(0);
        Check.due("not to itself", x.way(0, 0, -1), 0);
        Check.due("letters", x.is(1), 2);
        bring(x, 0, 1, REQUEST);
        bring(x, 1, 0, GRANT);
        Check.due("not all IN USE", x.node(0, 0), 1);
        bring(x, 0, 2, REQUEST);
        bring(x, 2, 0, GRANT);
        asker(x, 0, 2, 6, 0, 0);
        Check.due("brought for it", x.book(0, 3), 4);
    }

    /** To LEAVE, being INSIDE. False: it can't be. */
    private static void leftOnlyInside() {
        QuorumGate x = new QuorumGate();
        Gates.unchanged("idle", x, y -> y.leave(3) ? 1 : 0, 0);
        x.ask(3);
        Gates.unchanged("asking", x, y -> y.leave(3) ? 1 : 0, 0);
        x.goOn(1, 5);
        Gates.unchanged("all but one vote", x, y -> y.leave(3) ? 1 : 0, 0);
        x.goOn(1, 1);
        Check.due("inside", x.is(2), 8);
        Gates.unchanged("another one", x, y -> y.leave(0) ? 1 : 0, 0);
        Check.due("inside", x.leave(3), true);
        Check.due("RELEASE to all IN USE", x.sent(RELEASE), 3);
        Gates.unchanged("idle again", x, y -> y.leave(3) ? 1 : 0, 0);
        x.goOn(1, 500);
        x.breakDown(3);
        Gates.unchanged("broken", x, y -> y.leave(3) ? 1 : 0, 0);
    }

    /** INSIDE: IN USE has it not; to the last. */
    private static void leftWithNothingInUse() {
        QuorumGate x = new QuorumGate();
        x.wheel(3);
        x.ask(0);
        x.goOn(1, 4);
        Check.due("inside", x.is(2), 1);
        x.breakDown(2);
        Check.due("one IN USE", x.quorum(0, 2), 2);
        x.breakDown(1);
        Check.due("none IN USE", x.quorum(0, 2), 0);
        Check.due("inside still", x.is(2), 1);
        Check.due("to leave is all there is", x.is(10), 1);
        Gates.unchanged("somebody inside", x, y -> y.mend(1) ? 1 : 0, 0);
        Check.due("left", x.leave(0), true);
        Check.due("no RELEASE", x.sent(RELEASE), 0);
        Check.due("no letters", x.is(1), 0);
        Check.due("no QUORUM", x.ask(0), -1);
        Check.due("mended", x.mend(1), true);
        Check.due("a QUORUM", x.ask(0), 2);
        Check.due("that of 1", x.quorum(0, 2), 3);
    }

    /** To WITHDRAW, ASKING. False: it can't be. */
    private static void withdrawnOnlyAsking() {
        QuorumGate x = new QuorumGate();
        Gates.unchanged("idle", x, y -> y.withdraw(0) ? 1 : 0, 0);
        x.ask(0);
        Check.due("asking", x.withdraw(0), true);
        Check.due("RELEASE to all IN USE", x.sent(RELEASE), 3);
        Gates.unchanged("idle again", x, y -> y.withdraw(0) ? 1 : 0, 0);
        x.goOn(1, 500);
        x.ask(0);
        x.goOn(1, 5);
        Check.due("all but one vote", Integer.bitCount(x.node(0, 3)), 2);
        Check.due("all but one vote", x.withdraw(0), true);
        asker(x, 0, 0, 0, 0, 0);
        x.goOn(1, 500);
        Check.due("never inside", x.is(5), 0);
        x.ask(0);
        x.goOn(1, 6);
        Gates.unchanged("inside", x, y -> y.withdraw(0) ? 1 : 0, 0);
        x.breakDown(3);
        Gates.unchanged("broken", x, y -> y.withdraw(3) ? 1 : 0, 0);
    }

    /** To BREAK a NODE, IDLE, not BROKEN. False: it can't be. */
    private static void brokenOnlyIdle() {
        QuorumGate x = new QuorumGate();
        x.ask(0);
        Gates.unchanged("asking", x, y -> y.breakDown(0) ? 1 : 0, 0);
        x.goOn(1, 6);
        Gates.unchanged("inside", x, y -> y.breakDown(0) ? 1 : 0, 0);
        x.leave(0);
        Check.due("idle, its letters on the way", x.breakDown(0), true);
        Check.due("they are gone", x.is(1), 0);
        for (int v = 1; v < 3; v++) {
            Check.due("its RELEASE is as if it came to " + v, x.arbiter(v, 0), -1);
        }
        Gates.unchanged("broken", x, y -> y.breakDown(0) ? 1 : 0, 0);
    }

    private static void brokenOneByOneToNone() {
        for (int n = 2; n <= 16; n++) {
            QuorumGate x = new QuorumGate();
            x.majority(n);
            for (int v = n - 1; v >= 0; v--) {
                Check.due("break " + v + " of " + n, x.breakDown(v), true);
                Check.due("broken", x.node(v, 6), 1);
            }
            Check.due("all of " + n, x.is(4), (1 << n) - 1);
            for (int v = 0; v < n; v++) {
                Check.due("no QUORUM", x.quorum(v, 1), 0);
                Check.due("ask", x.ask(v), -1);
                Check.due("break", x.breakDown(v), false);
                Check.due("load", x.load(v), n / 2 + 1);
            }
            Check.due("nothing goes on", x.goOn(0, 500), 0);
            for (int v = 0; v < n; v++) {
                Check.due("mend " + v + " of " + n, x.mend(v), true);
                Check.due("mended", x.node(v, 6), 0);
                Check.due("mended already", x.mend(v), false);
            }
            Check.due("none of " + n, x.is(4), 0);
            Check.due("ask", x.ask(n - 1), 1);
            Check.due("by its own", x.quorum(n - 1, 2), x.quorum(n - 1, 0));
        }
    }

    /** LETTERS from it and to it are gone; those between others stay. */
    private static void lettersOfABrokenOne() {
        QuorumGate x = Gates.like(4, 15);
        for (int v = 0; v < 4; v++) {
            x.ask(v);
        }
        x.withdraw(2);
        x.breakDown(2);
        // It was in use by all others: they asked it, too, and have no QUORUM any more.
        for (int v = 0; v < 4; v++) {
            Check.due("from it to " + v, x.way(2, v, -1), 0);
            Check.due("to it from " + v, x.way(v, 2, -1), 0);
        }
        for (int v = 0; v < 4; v++) {
            for (int u = 0; u < 4; u++) {
                if (v != 2 && u != 2) {
                    Check.due("from " + v + " to " + u, x.way(v, u, 0), REQUEST);
                    Check.due("from " + v + " to " + u, x.way(v, u, 1), RELEASE);
                    Check.due("from " + v + " to " + u, x.way(v, u, -1), 2);
                }
            }
        }
        Check.due("sent are sent", x.sent(REQUEST), 16);
        Check.due("RELEASES of what is gone, too", x.sent(RELEASE), 4 + 9);
    }

    /** At each other arbiter it is as with its RELEASE (whatever STAMP): from the first to the last. */
    private static void brokenOneForgottenByEach() {
        for (int arbiter = 0; arbiter < 16; arbiter++) {
            QuorumGate x = Gates.like(16, 1 << arbiter);
            int one = arbiter == 0 ? 1 : 0;
            int other = arbiter == 15 ? 14 : 15;
            x.ask(one);
            x.withdraw(one);
            x.ask(one);
            x.ask(other);
            bring(x, one, arbiter, REQUEST);
            bring(x, other, arbiter, REQUEST);
            Check.due("whom it granted", x.arbiter(arbiter, 0), one);
            Check.due("by an older STAMP", x.arbiter(arbiter, 1), 1);
            Check.due("it asks", x.breakDown(one), false);
            x.withdraw(one);
            Check.due("it is idle", x.breakDown(one), true);
            Check.due("the first WAITING", x.arbiter(arbiter, 0), other);
            Check.due("its GRANT, behind its FAIL", x.way(arbiter, other, 1), x.sent(FAIL) == 1 ? GRANT : -1);
            Check.due("no one waits", x.arbiter(arbiter, 3), 0);
            QuorumGate y = Gates.like(16, 1 << arbiter);
            y.ask(one);
            y.ask(other);
            bring(y, one, arbiter, REQUEST);
            bring(y, other, arbiter, REQUEST);
            y.withdraw(other);
            Check.due("it waits", y.arbiter(arbiter, 3), 1);
            Check.due("it is idle", y.breakDown(other), true);
            Check.due("it waits no more", y.arbiter(arbiter, 3), 0);
            Check.due("whom it granted", y.arbiter(arbiter, 0), one);
            Check.due("one GRANT was sent", y.sent(GRANT), 1);
        }
    }

    private static void brokenKeepsItsNumbers() {
        QuorumGate x = Gates.alone(3);
        x.ask(2);
        x.goOn(0, 500);
        Check.due("inside once", x.node(2, 7), 1);
        x.breakDown(2);
        Check.due("CLOCK", x.node(2, 1), 1);
        Check.due("STAMP", x.node(2, 2), 1);
        Check.due("inside once", x.node(2, 7), 1);
        Check.due("handled", x.handled(2), 3);
        Check.due("THE BOOK", x.book(0, 0), 2);
        x.mend(2);
        Check.due("CLOCK", x.node(2, 1), 1);
        Check.due("its next STAMP", x.ask(2), 2);
    }

    /** Then each other NODE, rising, with it IN USE; then it ASKS again (if it can). */
    private static void askedAgainRising() {
        QuorumGate x = new QuorumGate();
        x.base(0, 8 | 1);
        x.base(1, 8 | 2);
        x.base(2, 4);
        x.base(3, 8);
        x.ask(0);
        x.ask(1);
        x.ask(2);
        x.breakDown(3);
        for (int v = 0; v < 2; v++) {
            Check.due(v + " asks again", x.node(v, 0), 1);
            Check.due(v + " by a later STAMP", x.node(v, 2), 2);
            Check.due(v + " by what is whole", x.quorum(v, 2), 4);
            Check.due("RELEASE to others IN USE", x.way(v, v, 1), RELEASE);
            Check.due("to these alone", x.way(v, v, -1), 2);
            Check.due("REQUEST anew", x.way(v, 2, 0), REQUEST);
        }
        Check.due("who had it not IN USE asks as before", x.node(2, 2), 1);
        Check.due("who had it not IN USE asks as before", x.way(2, 2, -1), 1);
        x.goOn(0, 500);
        Check.due("each was inside", x.is(5), 3);
        Check.due("one at a time", x.is(7), 0);
    }

    /** To MEND a BROKEN NODE: nobody is ASKING or INSIDE, no LETTERS are on the way. */
    private static void mendedOnlyWhenStill() {
        QuorumGate x = Gates.alone(3);
        Gates.unchanged("not broken", x, y -> y.mend(0) ? 1 : 0, 0);
        x.breakDown(2);
        x.ask(0);
        Gates.unchanged("somebody asking", x, y -> y.mend(2) ? 1 : 0, 0);
        x.bring(0, 0);
        x.bring(0, 0);
        Check.due("no letters", x.is(1), 0);
        Gates.unchanged("somebody inside", x, y -> y.mend(2) ? 1 : 0, 0);
        x.leave(0);
        Gates.unchanged("a letter on the way", x, y -> y.mend(2) ? 1 : 0, 0);
        x.bring(0, 0);
        Gates.unchanged("another one, not broken", x, y -> y.mend(1) ? 1 : 0, 0);
        Check.due("all still", x.mend(2), true);
        QuorumGate z = Gates.alone(2);
        z.breakDown(1);
        z.ask(0);
        z.bring(0, 0);
        z.bring(0, 0);
        z.leave(0);
        z.breakDown(0);
        Check.due("all broken, nothing on the way", z.mend(1), true);
        Check.due("the other", z.mend(0), true);
    }

    /** When one is brought the CLOCK of that NODE is the greater of it and the STAMP. */
    private static void clockIsTheGreater() {
        QuorumGate x = Gates.like(2, 2);
        x.ask(0);
        bring(x, 0, 1, REQUEST);
        Check.due("less", x.node(1, 1), 1);
        x.withdraw(0);
        Check.due("a like one", x.node(1, 1), 1);
        bring(x, 0, 1, RELEASE);
        Check.due("a like one", x.node(1, 1), 1);
        for (int i = 2; i <= 5; i++) {
            Check.due("one more", x.ask(1), i);
            x.withdraw(1);
        }
        Check.due("as it was for 0", x.ask(0), 2);
        bring(x, 0, 1, REQUEST);
        Check.due("greater already", x.node(1, 1), 5);
        x.goOn(0, 500);
        Check.due("one more", x.ask(1), 6);
        Check.due("of whom it came it is as it was", x.node(0, 1), 2);
    }

    /** Those from one NODE to one NODE come in the order in which they were sent. */
    private static void firstInOrder() {
        QuorumGate x = Gates.like(2, 2);
        Check.due("none", x.bring(0, 1), -1);
        for (int i = 0; i < 120; i++) {
            x.ask(0);
            x.withdraw(0);
        }
        Check.due("how many", x.way(0, 1, -1), 240);
        Check.due("the last", x.way(0, 1, 239), RELEASE);
        Check.due("behind the last", x.way(0, 1, 240), -1);
        for (int i = 1; i <= 120; i++) {
            bring(x, 0, 1, REQUEST);
            Check.due("by its STAMP", x.arbiter(1, 1), i);
            bring(x, 0, 1, RELEASE);
            Check.due("nobody", x.arbiter(1, 1), -1);
        }
        Check.due("none any more", x.bring(0, 1), -1);
        Check.due("the answers", x.way(1, 0, -1), 120);
    }

    /** If nobody is GRANTED, the first WAITING is GRANTED; else FAIL to it: fifteen wait at one. */
    private static void allWaitAtOne() {
        QuorumGate x = Gates.like(16, 1 << 15);
        for (int v = 0; v < 16; v++) {
            x.ask(v);
        }
        for (int v = 0; v < 16; v++) {
            bring(x, v, 15, REQUEST);
            Check.due("waiting", x.arbiter(15, 3), v);
        }
        Check.due("granted", x.arbiter(15, 0), 0);
        Check.due("inquired not", x.arbiter(15, 2), 0);
        for (int i = 0; i < 15; i++) {
            Check.due("i-th", x.waiting(15, i, 0), i + 1);
            Check.due("its STAMP", x.waiting(15, i, 1), 1);
        }
        for (int i : new int[] {MIN, -2, -1, 15, 16, MAX}) {
            Check.due("waiting(15, " + i + ", 0)", x.waiting(15, i, 0), -1);
            Check.due("waiting(15, " + i + ", 1)", x.waiting(15, i, 1), -1);
        }
        Check.due("most", x.crowded(0), 15);
        Check.due("how many", x.crowded(1), 15);
        Check.due("fails", x.sent(FAIL), 15);
        Check.due("no inquiries", x.sent(INQUIRE), 0);
        for (int v = 1; v < 16; v++) {
            Check.due("for 0", x.waitsFor(v), 1);
        }
        for (int v = 0; v < 16; v++) {
            x.goOn(v, 500);
        }
        Check.due("each was inside", x.is(5), 16);
        for (int v = 0; v < 16; v++) {
            Check.due("by their numbers", x.book(15 - v, 0), v);
        }
        Check.due("nobody overtook", x.is(11), 0);
    }

    /** FAIL to the one that was first WAITING up to then; INQUIRE, unless it INQUIRED already. */
    private static void allWaitAtOneBackwards() {
        QuorumGate x = Gates.like(16, 1);
        for (int v = 0; v < 16; v++) {
            x.ask(v);
        }
        for (int v = 15; v >= 0; v--) {
            bring(x, v, 0, REQUEST);
        }
        Check.due("granted", x.arbiter(0, 0), 15);
        Check.due("inquired once", x.sent(INQUIRE), 1);
        Check.due("all but the first and the granted", x.sent(FAIL), 14);
        Check.due("not to the first", x.way(0, 0, -1), 0);
        Check.due("to the next", x.way(0, 1, 0), FAIL);
        Check.due("to the last that waits", x.way(0, 14, 0), FAIL);
        Check.due("to whom is granted", x.way(0, 15, 0), GRANT);
        Check.due("to whom is granted", x.way(0, 15, 1), INQUIRE);
        for (int i = 0; i < 15; i++) {
            Check.due("i-th", x.waiting(0, i, 0), i);
        }
        Check.due("fifteen wait", x.arbiter(0, 3), 15);
    }

    /** INQUIRE of one that is INSIDE, by that STAMP, too: nothing is done. */
    private static void inquiryOfOneInside() {
        QuorumGate x = Gates.like(2, 2);
        x.ask(1);
        bring(x, 1, 1, REQUEST);
        x.ask(0);
        bring(x, 0, 1, REQUEST);
        bring(x, 1, 1, GRANT);
        asker(x, 1, 2, 2, 0, 0);
        bring(x, 1, 1, INQUIRE);
        asker(x, 1, 2, 2, 0, 0);
        Check.due("no YIELD", x.sent(YIELD), 0);
        Check.due("it inquired still", x.arbiter(1, 2), 1);
        x.leave(1);
        bring(x, 1, 1, RELEASE);
        Check.due("the first WAITING", x.arbiter(1, 0), 0);
        Check.due("it INQUIRED not", x.arbiter(1, 2), 0);
    }

    /** GRANT, FAIL and INQUIRE of one that isn't ASKING by that STAMP: nothing is done. */
    private static void grantOfOneInside() {
        QuorumGate x = Gates.like(2, 3);
        x.ask(0);
        bring(x, 0, 0, REQUEST);
        bring(x, 0, 1, REQUEST);
        x.withdraw(0);
        x.ask(0);
        bring(x, 0, 0, GRANT);
        bring(x, 1, 0, GRANT);
        asker(x, 0, 1, 0, 0, 0);
        x.withdraw(0);
        Check.due("idle", x.node(0, 0), 0);
        x.goOn(0, 500);
        asker(x, 0, 0, 0, 0, 0);
        Check.due("never inside", x.is(5), 0);
        Check.due("all are free again", x.arbiter(0, 0) + x.arbiter(1, 0), -2);
    }

    /** FAIL: to all in DOUBTS YIELD, none if there are none; INQUIRE: with FAILS YIELD at once. */
    private static void failWithoutDoubts() {
        QuorumGate x = Gates.like(2, 3);
        x.ask(0);
        x.ask(1);
        bring(x, 0, 0, REQUEST);
        bring(x, 1, 1, REQUEST);
        bring(x, 0, 1, REQUEST);
        bring(x, 1, 0, REQUEST);
        bring(x, 0, 1, FAIL);
        asker(x, 1, 1, 0, 0, 1);
        Check.due("no YIELD", x.sent(YIELD), 0);
        bring(x, 1, 1, GRANT);
        asker(x, 1, 1, 2, 0, 1);
        bring(x, 1, 1, INQUIRE);
        asker(x, 1, 1, 0, 0, 3);
        Check.due("YIELD", x.sent(YIELD), 1);
        Check.due("YIELD to it", x.way(1, 1, 0), YIELD);
    }

    /** Then the first WAITING, if there is any, is GRANTED. */
    private static void releaseWithNobodyWaiting() {
        QuorumGate x = Gates.like(2, 1);
        x.ask(1);
        bring(x, 1, 0, REQUEST);
        x.withdraw(1);
        bring(x, 1, 0, RELEASE);
        Check.due("nobody", x.arbiter(0, 0), -1);
        Check.due("nobody's STAMP", x.arbiter(0, 1), -1);
        Check.due("one GRANT was sent", x.sent(GRANT), 1);
        x.ask(0);
        x.ask(1);
        bring(x, 1, 0, REQUEST);
        bring(x, 0, 0, REQUEST);
        Check.due("whom it granted", x.arbiter(0, 0), 1);
        x.withdraw(1);
        bring(x, 1, 0, RELEASE);
        Check.due("the first WAITING", x.arbiter(0, 0), 0);
        Check.due("none waits", x.arbiter(0, 3), 0);
        Check.due("its GRANT", x.way(0, 0, 0), GRANT);
    }

    /** How often two or more were INSIDE at once (entries by which that came). */
    private static void allInsideAtOnce() {
        QuorumGate x = Gates.alone(16);
        for (int v = 0; v < 16; v++) {
            x.ask(v);
            bring(x, v, v, REQUEST);
            bring(x, v, v, GRANT);
            Check.due("two or more", x.is(7), v);
        }
        Check.due("all", x.is(2), 65535);
        Check.due("to leave, each", x.is(10), 16);
        Check.due("entries", x.is(5), 16);
        Check.due("nobody asks", x.is(3), 0);
        for (int v = 15; v >= 0; v--) {
            Check.due("leave", x.leave(v), true);
            Check.due("inside", x.is(2), (1 << v) - 1);
        }
        Check.due("RELEASES", x.is(1), 16);
        Check.due("no more entries by it", x.is(7), 15);
    }

    private static void nobodyAtFirst() {
        QuorumGate x = new QuorumGate();
        for (int v = 0; v < 4; v++) {
            asker(x, v, 0, 0, 0, 0);
            Check.due("CLOCK", x.node(v, 1), 0);
            Check.due("it never asked", x.node(v, 2), 0);
            Check.due("whom it GRANTED", x.arbiter(v, 0), -1);
            Check.due("that one's STAMP", x.arbiter(v, 1), -1);
            Check.due("INQUIRED", x.arbiter(v, 2), 0);
            Check.due("WAITING", x.arbiter(v, 3), 0);
            Check.due("there is none", x.waiting(v, 0, 0), -1);
            Check.due("there is none", x.waiting(v, 0, 1), -1);
            Check.due("it isn't ASKING", x.waitsFor(v), -1);
            Check.due("it isn't ASKING", x.unheard(v), -1);
            Check.due("handled", x.handled(v), 0);
            for (int u = 0; u < 4; u++) {
                Check.due("how many", x.way(v, u, -1), 0);
                Check.due("there is none", x.way(v, u, 0), -1);
                Check.due("there is none", x.bring(v, u), -1);
            }
        }
        Check.due("BRINGINGS", x.is(6), 0);
        Check.due("THE TRACE", x.trace(-1, 0), 0);
        Check.due("so many BRINGINGS ago", x.trace(0, 0), -2);
        Check.due("so many entries ago", x.book(0, 0), -2);
    }

    /** LETTERS go from a NODE to a NODE (itself, too): counted once for it. */
    private static void lettersToItself() {
        QuorumGate x = Gates.alone(2);
        x.ask(1);
        bring(x, 1, 1, REQUEST);
        bring(x, 1, 1, GRANT);
        Check.due("brought to it or from it", x.book(0, 3), 2);
        Check.due("handled", x.handled(1), 2);
        Check.due("sent", x.sent(6), 2);
        Check.due("in the trace", x.trace(0, 1) + 10 * x.trace(0, 2), 11);
    }

    private static void enterAlone(QuorumGate x, int node) {
        x.ask(node);
        x.bring(node, node);
        x.bring(node, node);
        x.leave(node);
        x.bring(node, node);
    }

    /** THE BOOK: the latest 30 entries. */
    private static void bookOfThirty() {
        QuorumGate x = Gates.alone(2);
        for (int i = 1; i <= 29; i++) {
            enterAlone(x, 0);
        }
        Check.due("29", x.book(-1, 0), 29);
        Check.due("the first", x.book(28, 1), 1);
        Check.due("none ahead of it", x.book(29, 1), -2);
        enterAlone(x, 1);
        Check.due("30", x.book(-1, 0), 30);
        Check.due("the first still", x.book(29, 1), 1);
        Check.due("none ahead of it", x.book(30, 1), -2);
        Check.due("the latest", x.book(0, 0), 1);
        enterAlone(x, 0);
        Check.due("30 still", x.book(-1, 0), 30);
        Check.due("the first is gone", x.book(29, 1), 2);
        Check.due("no more", x.book(30, 1), -2);
        Check.due("the latest", x.book(0, 1), 30);
        Check.due("the one before", x.book(1, 0), 1);
        Check.due("entries", x.is(5), 31);
        for (int ago : new int[] {MIN, -2, 30, 31, MAX}) {
            for (int what = 0; what < 4; what++) {
                Check.due("book(" + ago + ", " + what + ")", x.book(ago, what), -2);
            }
        }
        for (int what : new int[] {MIN, -2, -1, 4, 5, MAX}) {
            Check.due("book(0, " + what + ")", x.book(0, what), -2);
            Check.due("book(29, " + what + ")", x.book(29, what), -2);
        }
    }

    /** THE TRACE: the latest 40 of these. */
    private static void traceOfForty() {
        QuorumGate x = Gates.alone(2);
        for (int i = 1; i <= 13; i++) {
            enterAlone(x, 0);
        }
        Check.due("39", x.trace(-1, 0), 39);
        Check.due("the first", x.trace(38, 0), REQUEST);
        Check.due("none ahead of it", x.trace(39, 0), -2);
        x.ask(1);
        bring(x, 1, 1, REQUEST);
        Check.due("40", x.trace(-1, 0), 40);
        Check.due("the first still", x.trace(39, 3), 1);
        Check.due("none ahead of it", x.trace(40, 3), -2);
        bring(x, 1, 1, GRANT);
        Check.due("40 still", x.trace(-1, 0), 40);
        Check.due("the first is gone", x.trace(39, 0), GRANT);
        Check.due("the second has its STAMP", x.trace(39, 3), 1);
        Check.due("the latest", x.trace(0, 0), GRANT);
        Check.due("from 1", x.trace(0, 1), 1);
        Check.due("BRINGINGS", x.is(6), 41);
        for (int ago : new int[] {MIN, -2, 40, 41, MAX}) {
            for (int what = 0; what < 4; what++) {
                Check.due("trace(" + ago + ", " + what + ")", x.trace(ago, what), -2);
            }
        }
        for (int what : new int[] {MIN, -2, -1, 4, 5, MAX}) {
            Check.due("trace(0, " + what + ")", x.trace(0, what), -2);
            Check.due("trace(39, " + what + ")", x.trace(39, what), -2);
        }
    }

    /** An entry OVERTAKES, if one that is ASKING then is ahead of it (by STAMPS). */
    private static void overtakingByStamps() {
        for (int other = 0; other < 3; other++) {
            for (int later = 0; later < 2; later++) {
                if (other == 1) {
                    continue;
                }
                QuorumGate x = Gates.alone(3);
                if (later == 1) {
                    x.ask(other);
                    x.withdraw(other);
                }
                x.ask(other);
                enterAlone(x, 1);
                // Of like STAMPS the lesser NODE is ahead.
                Check.due(other + " asking, later " + later, x.is(11), other == 0 && later == 0 ? 1 : 0);
                x.withdraw(other);
                enterAlone(x, 1);
                Check.due("nobody asking", x.is(11), other == 0 && later == 0 ? 1 : 0);
            }
        }
        QuorumGate x = Gates.alone(16);
        for (int v = 0; v < 15; v++) {
            x.ask(v);
        }
        enterAlone(x, 15);
        Check.due("one entry, whomever it overtook", x.is(11), 1);
        enterAlone(x, 15);
        Check.due("another", x.is(11), 2);
    }

    /** ROUND: those who wait for themselves, through others or not. */
    private static void roundOfSixteen() {
        for (int n = 2; n <= 16; n++) {
            QuorumGate x = new QuorumGate();
            x.majority(n);
            for (int v = 0; v < n; v++) {
                x.base(v, 1 << v | 1 << (v + 1) % n);
            }
            for (int v = 0; v < n; v++) {
                x.ask(v);
            }
            for (int v = n - 1; v >= 0; v--) {
                Check.due("a row of " + n, x.is(12), 0);
                bring(x, v, v, REQUEST);
                Check.due("for nobody but whom it asked", x.waitsFor(v), v == n - 1 ? 0 : 1 << v + 1);
            }
            Check.due("the last for the first", x.waitsFor(n - 1), 1);
            Check.due("round of " + n, x.is(12), (1 << n) - 1);
            x.withdraw(n / 2);
            Check.due("round no more", x.is(12), 0);
        }
    }

    /** NONE: the NODE isn't ASKING; else of nobody, of all. */
    private static void awaitedAndUnheard() {
        QuorumGate x = Gates.like(16, 65535);
        x.ask(0);
        Check.due("for nobody", x.waitsFor(0), 0);
        Check.due("of nobody", x.unheard(0), 65535);
        for (int v = 1; v < 16; v++) {
            x.ask(v);
            bring(x, v, v, REQUEST);
        }
        Check.due("for all others", x.waitsFor(0), 65534);
        Check.due("for all others but itself", x.waitsFor(15), 32766);
        bring(x, 0, 0, REQUEST);
        Check.due("itself aside", x.waitsFor(0), 65534);
        bring(x, 0, 0, GRANT);
        Check.due("VOTES aside", x.unheard(0), 65534);
        allHeard();
        QuorumGate y = Gates.alone(2);
        y.ask(0);
        y.goOn(0, 2);
        Check.due("it is inside", y.unheard(0), -1);
        Check.due("it is inside", y.waitsFor(0), -1);
        y.breakDown(1);
        Check.due("it is broken", y.unheard(1), -1);
        Check.due("it is broken", y.waitsFor(1), -1);
    }

    private static void allHeard() {
        QuorumGate x = Gates.alone(16);
        x.base(15, 65535);
        for (int v = 0; v < 16; v++) {
            x.ask(v);
            bring(x, v, v, REQUEST);
        }
        for (int v = 0; v < 15; v++) {
            bring(x, 15, v, REQUEST);
            Check.due("unheard", x.unheard(15), 65535 & -1 << v);
            bring(x, v, 15, FAIL);
            Check.due("FAILS aside", x.unheard(15), 65535 & -2 << v);
        }
        bring(x, 15, 15, GRANT);
        Check.due("all heard", x.unheard(15), 0);
        Check.due("for all whom others granted", x.waitsFor(15), 32767);
        x.withdraw(15);
        Check.due("it isn't ASKING", x.unheard(15), -1);
        Check.due("it isn't ASKING", x.waitsFor(15), -1);
    }

    /** Of like ones the least (what 0; NONE: nobody is anywhere), how many there (1). */
    private static void crowdedOnes() {
        QuorumGate x = Gates.like(16, 65535);
        Check.due("nobody is anywhere", x.crowded(0), -1);
        Check.due("nobody is anywhere", x.crowded(1), 0);
        x.ask(0);
        x.ask(1);
        for (int v = 15; v >= 0; v--) {
            bring(x, 0, v, REQUEST);
            Check.due("who is granted waits not", x.crowded(0), v == 15 ? -1 : v + 1);
            bring(x, 1, v, REQUEST);
            Check.due("of like ones the least", x.crowded(0), v);
            Check.due("one there", x.crowded(1), 1);
        }
        x.ask(2);
        bring(x, 2, 15, REQUEST);
        Check.due("the last, having most", x.crowded(0), 15);
        Check.due("two there", x.crowded(1), 2);
    }

    /** The most LETTERS that were brought for one entry, the most BRINGINGS one waited. */
    private static void mostOfEntries() {
        QuorumGate x = Gates.alone(2);
        x.ask(0);
        enterAlone(x, 1);
        Check.due("as long as one asks it has none", x.is(9), 2);
        enterAlone(x, 1);
        x.bring(0, 0);
        Check.due("as long as one asks it has none", x.is(9), 2);
        x.bring(0, 0);
        Check.due("then it has", x.is(9), 8);
        Check.due("its own", x.is(8), 2);
        Check.due("its row", x.book(0, 2), 8);
        x.leave(0);
        x.bring(0, 0);
        x.ask(0);
        for (int i = 0; i < 5; i++) {
            enterAlone(x, 1);
        }
        x.withdraw(0);
        x.goOn(0, 500);
        Check.due("who withdrew has none", x.is(9), 8);
        enterAlone(x, 0);
        Check.due("from its latest ASK on", x.book(0, 2), 2);
        QuorumGate y = Gates.like(2, 2);
        y.base(0, 3);
        y.ask(0);
        y.bring(0, 1);
        y.bring(1, 0);
        y.breakDown(1);
        Check.due("without a QUORUM", y.node(0, 0), 0);
        y.goOn(0, 500);
        y.mend(1);
        y.ask(0);
        y.goOn(0, 4);
        Check.due("from its latest ASK on", y.book(0, 2), 4);
        Check.due("from its latest ASK on", y.book(0, 3), 4);
    }

    /** COUNTED as they are sent, and as they are brought. */
    private static void sentAndHandled() {
        QuorumGate x = Gates.like(16, 65535);
        x.ask(15);
        Check.due("sent", x.sent(REQUEST), 16);
        Check.due("all", x.sent(6), 16);
        for (int kind = 1; kind <= 5; kind++) {
            Check.due("none of " + kind, x.sent(kind), 0);
        }
        bring(x, 15, 15, REQUEST);
        Check.due("to the last", x.handled(15), 1);
        Check.due("to the first", x.handled(0), 0);
        x.goOn(0, 31);
        Check.due("inside", x.is(2), 1 << 15);
        Check.due("to the last", x.handled(15), 17);
        Check.due("to the first", x.handled(0), 1);
        Check.due("sent in all", x.sent(6), 32);
        x.leave(15);
        Check.due("sent in all", x.sent(6), 48);
        Check.due("released", x.sent(RELEASE), 16);
        Check.due("none by handing", x.is(6), 32);
    }

    /** An entry, one asking that has doubts, one that waits, one broken; letters, ways. */
    private static QuorumGate stirred() {
        QuorumGate x = new QuorumGate();
        x.ask(1);
        x.goOn(1, 500);
        x.ask(0);
        x.withdraw(0);
        x.breakDown(3);
        x.ask(2);
        x.bring(2, 2);
        x.ask(0);
        x.bring(0, 0);
        x.bring(0, 0);
        x.delay(0, 1, 4);
        return x;
    }

    private static void refusedNodes() {
        for (int v : NO_NODES) {
            QuorumGate x = stirred();
            Gates.unchanged("ask(" + v + ")", x, y -> y.ask(v), -1);
            Gates.unchanged("leave(" + v + ")", x, y -> y.leave(v) ? 1 : 0, 0);
            Gates.unchanged("withdraw(" + v + ")", x, y -> y.withdraw(v) ? 1 : 0, 0);
            Gates.unchanged("breakDown(" + v + ")", x, y -> y.breakDown(v) ? 1 : 0, 0);
            Gates.unchanged("mend(" + v + ")", x, y -> y.mend(v) ? 1 : 0, 0);
            Gates.unchanged("bring(" + v + ", 0)", x, y -> y.bring(v, 0), -1);
            Gates.unchanged("bring(0, " + v + ")", x, y -> y.bring(0, v), -1);
            Gates.unchanged("bring(" + v + ", " + v + ")", x, y -> y.bring(v, v), -1);
            Gates.unchanged("handled(" + v + ")", x, y -> y.handled(v), -1);
            Gates.unchanged("waitsFor(" + v + ")", x, y -> y.waitsFor(v), -1);
            Gates.unchanged("unheard(" + v + ")", x, y -> y.unheard(v), -1);
            for (int what = 0; what < 8; what++) {
                Check.due("node(" + v + ", " + what + ")", x.node(v, what), -1);
                Check.due("arbiter(" + v + ", " + what + ")", x.arbiter(v, what), -1);
            }
            for (int i = -1; i < 3; i++) {
                Check.due("waiting(" + v + ", " + i + ", 0)", x.waiting(v, i, 0), -1);
                Check.due("waiting(" + v + ", " + i + ", 1)", x.waiting(v, i, 1), -1);
                Check.due("way(" + v + ", 0, " + i + ")", x.way(v, 0, i), -1);
                Check.due("way(0, " + v + ", " + i + ")", x.way(0, v, i), -1);
            }
        }
    }

    private static void refusedWhats() {
        QuorumGate x = stirred();
        for (int what : new int[] {MIN, -2, -1, 8, 9, 100, MAX}) {
            Gates.unchanged("node(0, " + what + ")", x, y -> y.node(0, what), -1);
        }
        for (int what : new int[] {MIN, -2, -1, 4, 5, 100, MAX}) {
            Gates.unchanged("arbiter(0, " + what + ")", x, y -> y.arbiter(0, what), -1);
        }
        for (int what : new int[] {MIN, -2, -1, 2, 3, 100, MAX}) {
            Gates.unchanged("waiting(0, 0, " + what + ")", x, y -> y.waiting(0, 0, what), -1);
            Gates.unchanged("crowded(" + what + ")", x, y -> y.crowded(what), -1);
        }
        for (int what : new int[] {MIN, -2, -1, 13, 14, 100, MAX}) {
            Gates.unchanged("is(" + what + ")", x, y -> y.is(what), -1);
        }
        for (int kind : new int[] {MIN, -2, -1, 7, 8, 100, MAX}) {
            Gates.unchanged("sent(" + kind + ")", x, y -> y.sent(kind), -1);
        }
        for (int k : new int[] {MIN, -3, -2, 5, 100, MAX}) {
            Gates.unchanged("way(0, 0, " + k + ")", x, y -> y.way(0, 0, k), -1);
        }
        Gates.unchanged("bring of an empty way", x, y -> y.bring(3, 3), -1);
    }
}
