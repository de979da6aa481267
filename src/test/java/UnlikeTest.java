/**
 * Sentences that only show where things are unlike: STAMPS, sizes, what was first and what is now, who is aside.
 * Each test bears the words it holds the program to. The answers due are worked out by hand.
 */
final class UnlikeTest extends Seen {
    private UnlikeTest() {
    }

    public static void main(String[] args) {
        quorumOfTheLeastNode();
        wholeOfTheFirstBelow();
        failsAndInquiriesByTheirStamps();
        failToOneAlone();
        grantLeavesOtherDoubts();
        yieldToTheFirstItself();
        brokenReleasesFirst();
        brokenForgetsInquiryOfOneGone();
        countedFromTheLastAsk();
        mostStaysTheMost();
        meansOfLettersOnTheWay();
        stampsBehindClocks();
        nodesFarOffWhileOneIsInside();
        timedBehindManyEntries();
        fewestOrLeast();
        leavingIsAMove();
        movesInTheirOrder();
        askersInTheirOrder();
        overtakingBesideOthers();
        overtakingByStampsNotClocks();
        lettersByStampsNotClocks();
        askersByTheirClocks();
        Check.end("UnlikeTest");
    }

    /** QUORUM: else the BASE of the least NODE for which that is so, whether a smaller one is whole or not. */
    private static void quorumOfTheLeastNode() {
        QuorumGate x = new QuorumGate();
        x.base(0, 1);
        x.base(1, 2 | 4 | 8);
        x.base(2, 4 | 8);
        x.base(3, 8);
        x.breakDown(0);
        Check.due("of the least", x.quorum(0, 1), 14);
        Check.due("its own", x.quorum(2, 1), 12);
        Check.due("its own", x.quorum(3, 1), 8);
        x.breakDown(1);
        Check.due("of the least now", x.quorum(0, 1), 12);
        Check.due("of the least now", x.quorum(1, 1), 12);
    }

    /** WHOLE: it and WHOLE of the first one below it that has one, whether that of the other is smaller or not. */
    private static void wholeOfTheFirstBelow() {
        QuorumGate x = new QuorumGate();
        x.tree(4);
        x.breakDown(1);
        int both = 1 << 3 | 1 << 7 | 1 << 4 | 1 << 9;
        for (int v : new int[] {0, 1, 3, 4, 7, 8, 9, 10}) {
            Check.due("of the first, broken", x.quorum(v, 1), 1 | both);
        }
        Check.due("its own", x.quorum(2, 1), 1 | 1 << 2 | 1 << 5 | 1 << 11);
        x.breakDown(9);
        Check.due("by the next leaf", x.quorum(1, 1), 1 | 1 << 3 | 1 << 7 | 1 << 4 | 1 << 10);
        x.breakDown(10);
        // 4 has none below it any more, so 1, broken, has none either.
        Check.due("of the second", x.quorum(1, 1), 1 | 1 << 2 | 1 << 5 | 1 << 11);
    }

    /** FAIL to the one that was first WAITING up to then, INQUIRE to whom is GRANTED: each by that one's STAMP. */
    private static void failsAndInquiriesByTheirStamps() {
        QuorumGate x = Gates.like(3, 3);
        Check.due("the first asks at once", x.ask(0), 1);
        x.ask(1);
        x.withdraw(1);
        Check.due("the second later", x.ask(1), 2);
        for (int i = 0; i < 2; i++) {
            x.ask(2);
            x.withdraw(2);
        }
        Check.due("the third latest", x.ask(2), 3);
        for (int i = 0; i < 2; i++) {
            bring(x, 2, 0, REQUEST);
            bring(x, 2, 0, RELEASE);
        }
        bring(x, 2, 0, REQUEST);
        arbiter(x, 0, 2, 3, 0, 0);
        bring(x, 1, 0, REQUEST);
        bring(x, 1, 0, RELEASE);
        bring(x, 1, 0, REQUEST);
        arbiter(x, 0, 2, 3, 1, 1);
        bring(x, 0, 0, REQUEST);
        arbiter(x, 0, 2, 3, 1, 2);
        bring(x, 0, 1, REQUEST);
        lane(x, 0, 1, FAIL);
        bring(x, 0, 1, FAIL);
        Check.due("STAMP of the FAIL", x.trace(0, 3), 2);
        asker(x, 1, 1, 0, 0, 1);
        lane(x, 0, 2, GRANT, GRANT, GRANT, INQUIRE);
        for (int stamp = 1; stamp <= 3; stamp++) {
            bring(x, 0, 2, GRANT);
            Check.due("STAMP of the GRANT", x.trace(0, 3), stamp);
            asker(x, 2, 1, stamp == 3 ? 1 : 0, 0, 0);
        }
        bring(x, 0, 2, INQUIRE);
        Check.due("STAMP of the INQUIRE", x.trace(0, 3), 3);
        asker(x, 2, 1, 1, 1, 0);
    }

    /** Else FAIL to it: the first WAITING, not ahead of whom is GRANTED, makes no other one fail once more. */
    private static void failToOneAlone() {
        QuorumGate x = Gates.like(3, 1);
        for (int v = 0; v < 3; v++) {
            x.ask(v);
        }
        bring(x, 0, 0, REQUEST);
        bring(x, 2, 0, REQUEST);
        bring(x, 1, 0, REQUEST);
        Check.due("first WAITING", x.waiting(0, 0, 0), 1);
        lane(x, 0, 1, FAIL);
        lane(x, 0, 2, FAIL);
        arbiter(x, 0, 0, 1, 0, 2);
    }

    /** GRANT: DOUBTS and FAILS have it (the arbiter) not, and others as they had them. Unheard: VOTES aside. */
    private static void grantLeavesOtherDoubts() {
        QuorumGate x = Gates.like(3, 7);
        x.ask(2);
        x.ask(0);
        bring(x, 0, 2, REQUEST);
        bring(x, 2, 0, REQUEST);
        bring(x, 0, 0, REQUEST);
        bring(x, 0, 2, GRANT);
        bring(x, 0, 2, INQUIRE);
        asker(x, 2, 1, 1, 1, 0);
        Check.due("who doubts has the VOTE", x.unheard(2), 6);
        bring(x, 2, 1, REQUEST);
        bring(x, 1, 2, GRANT);
        asker(x, 2, 1, 3, 1, 0);
        Check.due("who doubts has the VOTE", x.unheard(2), 4);
        bring(x, 2, 2, REQUEST);
        bring(x, 2, 2, FAIL);
        asker(x, 2, 1, 2, 0, 5);
        lane(x, 2, 0, GRANT, YIELD);
        lane(x, 2, 1);
        Check.due("FAILS aside", x.unheard(2), 0);
    }

    /** YIELD: that one is WAITING; the first WAITING is GRANTED: that one itself, if who inquired is gone. */
    private static void yieldToTheFirstItself() {
        QuorumGate x = Gates.like(3, 5);
        for (int v = 0; v < 3; v++) {
            x.ask(v);
        }
        bring(x, 1, 2, REQUEST);
        bring(x, 2, 2, REQUEST);
        bring(x, 0, 2, REQUEST);
        bring(x, 0, 0, REQUEST);
        bring(x, 1, 0, REQUEST);
        bring(x, 0, 1, FAIL);
        bring(x, 2, 1, GRANT);
        bring(x, 2, 1, INQUIRE);
        asker(x, 1, 1, 0, 0, 5);
        x.withdraw(0);
        bring(x, 0, 2, RELEASE);
        arbiter(x, 2, 1, 1, 1, 1);
        bring(x, 1, 2, YIELD);
        arbiter(x, 2, 1, 1, 0, 1);
        Check.due("the other waits as before", x.waiting(2, 0, 0), 2);
        lane(x, 2, 1, GRANT);
        bring(x, 2, 1, GRANT);
        asker(x, 1, 1, 4, 0, 1);
    }

    /** To BREAK: at each other arbiter it is as with its RELEASE; then each other NODE with it IN USE. */
    private static void brokenReleasesFirst() {
        QuorumGate x = new QuorumGate();
        x.ask(0);
        bring(x, 0, 1, REQUEST);
        Check.due("behind it", x.ask(1), 2);
        bring(x, 1, 1, REQUEST);
        lane(x, 1, 1, FAIL);
        x.withdraw(0);
        Check.due("break", x.breakDown(0), true);
        // The GRANT goes by the STAMP that 1 had, and finds it asking anew.
        lane(x, 1, 1, FAIL, GRANT, RELEASE, REQUEST);
        bring(x, 1, 1, FAIL);
        bring(x, 1, 1, GRANT);
        Check.due("STAMP of the GRANT", x.trace(0, 3), 2);
        Check.due("STAMP of now", x.node(1, 2), 3);
        asker(x, 1, 1, 0, 0, 0);
        Check.due("by the base of 3", x.quorum(1, 2), 14);
    }

    /** As with its RELEASE: nobody is GRANTED, it INQUIRED not, whoever it inquired for. */
    private static void brokenForgetsInquiryOfOneGone() {
        QuorumGate x = Gates.like(3, 4);
        x.ask(1);
        x.ask(0);
        bring(x, 1, 2, REQUEST);
        bring(x, 0, 2, REQUEST);
        x.withdraw(0);
        bring(x, 0, 2, RELEASE);
        arbiter(x, 2, 1, 1, 1, 0);
        x.withdraw(1);
        Check.due("break", x.breakDown(1), true);
        arbiter(x, 2, -1, -1, 0, 0);
    }

    /** From its ASK on: who ASKS again, as one broke, waits anew. */
    private static void countedFromTheLastAsk() {
        QuorumGate x = new QuorumGate();
        x.ask(0);
        bring(x, 0, 0, REQUEST);
        bring(x, 0, 0, GRANT);
        x.breakDown(1);
        Check.due("asks again", x.node(0, 2), 2);
        bring(x, 0, 0, RELEASE);
        bring(x, 0, 0, REQUEST);
        bring(x, 0, 0, GRANT);
        bring(x, 0, 2, REQUEST);
        bring(x, 0, 2, RELEASE);
        bring(x, 0, 2, REQUEST);
        bring(x, 2, 0, GRANT);
        bring(x, 2, 0, GRANT);
        bring(x, 0, 3, REQUEST);
        bring(x, 3, 0, GRANT);
        Check.due("inside", x.is(2), 1);
        int[] row = {0, 2, 10, 10};
        for (int what = 0; what < 4; what++) {
            Check.due("book(0, " + what + ")", x.book(0, what), row[what]);
        }
        Check.due("the most LETTERS", x.is(8), 10);
        Check.due("the most BRINGINGS", x.is(9), 10);
        Check.due("BRINGINGS", x.is(6), 12);
    }

    /** The most LETTERS that were brought for one entry, the most BRINGINGS one waited: not those of the latest. */
    private static void mostStaysTheMost() {
        QuorumGate x = new QuorumGate();
        x.majority(2);
        x.base(1, 2);
        x.ask(0);
        x.goOn(0, 4);
        x.leave(0);
        x.goOn(0, 500);
        x.ask(1);
        x.goOn(0, 2);
        Check.due("inside", x.is(2), 2);
        Check.due("the latest's", x.book(0, 3), 2);
        Check.due("the latest's", x.book(0, 2), 2);
        Check.due("the most LETTERS", x.is(8), 4);
        Check.due("the most BRINGINGS", x.is(9), 4);
    }

    /** LETTERS sent (not brought) for each entry; this by the whole root. */
    private static void meansOfLettersOnTheWay() {
        QuorumGate x = Gates.alone(9);
        for (int i = 0; i < 3; i++) {
            x.ask(0);
            x.goOn(0, 2);
            x.leave(0);
            x.goOn(0, 1);
        }
        x.ask(1);
        x.withdraw(1);
        Check.due("entries", x.is(5), 3);
        Check.due("sent", x.sent(6), 11);
        Check.due("brought", x.is(6), 9);
        Check.due("mean", x.mean(), Float.floatToIntBits(11.0f / 3.0f));
        // Another number than 11 / 9 by its last bit.
        Check.due("by the root", x.byRoot(), Double.doubleToLongBits(11.0 / 3.0 / 3.0));
    }

    /** CLOCK; STAMP (of its latest asking; 0: it never asked). */
    private static void stampsBehindClocks() {
        QuorumGate x = Gates.like(2, 2);
        for (int i = 1; i <= 4; i++) {
            x.ask(0);
            bring(x, 0, 1, REQUEST);
            x.withdraw(0);
            bring(x, 0, 1, RELEASE);
        }
        Check.due("CLOCK of one that never asked", x.node(1, 1), 4);
        Check.due("STAMP of one that never asked", x.node(1, 2), 0);
        QuorumGate y = Gates.like(3, 2);
        y.ask(1);
        for (int i = 1; i <= 4; i++) {
            y.ask(0);
            y.withdraw(0);
            bring(y, 0, 1, REQUEST);
            bring(y, 0, 1, RELEASE);
        }
        Check.due("CLOCK since it asked", y.node(1, 1), 4);
        Check.due("STAMP of its asking", y.node(1, 2), 1);
        Check.due("its letter's, too", y.bring(1, 1), REQUEST);
        Check.due("its letter's, too", y.arbiter(1, 1), 1);
        y.withdraw(1);
        Check.due("STAMP of its asking", y.node(1, 2), 1);
        Check.due("CLOCK is 1 more", y.ask(1), 5);
    }

    /** False, NONE: for others; far off ones are no other names of those there are. */
    private static void nodesFarOffWhileOneIsInside() {
        QuorumGate x = Gates.alone(16);
        for (int v = 0; v < 16; v++) {
            x.ask(v);
            x.bring(v, v);
            x.bring(v, v);
        }
        Check.due("all inside", x.is(2), 65535);
        for (int v : new int[] {Integer.MIN_VALUE, -32, -31, -1, 16, 31, 32, 33, 47, 64, Integer.MAX_VALUE}) {
            Gates.unchanged("leave(" + v + ")", x, y -> y.leave(v) ? 1 : 0, 0);
            Gates.unchanged("entersBy(" + v + ", 0)", x, y -> y.entersBy(v, 0), -1);
            Gates.unchanged("soonest(" + v + ", 1)", x, y -> y.soonest(v, 1), -1);
            Gates.unchanged("timed(1, " + v + ", 3)", x, y -> y.timed(1, v, 3), -1);
        }
        for (int v = 0; v < 16; v++) {
            x.leave(v);
            x.bring(v, v);
            x.breakDown(v);
        }
        for (int v : new int[] {Integer.MIN_VALUE, -32, -31, -1, 16, 31, 32, 33, 47, 64, Integer.MAX_VALUE}) {
            Gates.unchanged("mend(" + v + ")", x, y -> y.mend(v) ? 1 : 0, 0);
        }
    }

    /** The TIME at which a NODE came to be INSIDE first, however often it was before. */
    private static void timedBehindManyEntries() {
        QuorumGate x = Gates.alone(2);
        for (int i = 0; i < 5; i++) {
            x.ask(0);
            x.goOn(0, 2);
            x.leave(0);
            x.goOn(0, 1);
        }
        Check.due("often", x.node(0, 7), 5);
        Check.due("not by then", x.timed(1, 0, 3), -1);
        x.ask(0);
        Check.due("its TIME", x.timed(1, 0, 3), 2);
        Check.due("the TIME of the last", x.timed(1, 0, 2), 2);
        Check.due("entries", x.timed(1, 0, 1), 1);
        Check.due("of another one", x.timed(1, 1, 3), -1);
    }

    /** The fewest NODES that stop all, the least set of as many; the least set (as a number) that DOES BETTER. */
    private static void fewestOrLeast() {
        QuorumGate x = new QuorumGate();
        x.majority(8);
        for (int v = 0; v < 8; v++) {
            x.base(v, 1 << v % 4 | (v % 4 < 2 ? 1 << 6 : 1 << 7));
        }
        Check.due("the fewest", x.weakest(0), 2);
        Check.due("of as many", x.weakest(1), 1 << 6 | 1 << 7);
        Check.due("more of them by a lesser number stop all, too", x.stops(15), true);
        Check.due("as a number", x.better(), 15);
    }

    /** With how many MOVES: to LEAVE is one. */
    private static void leavingIsAMove() {
        QuorumGate x = Gates.like(2, 1);
        x.ask(0);
        x.goOn(0, 2);
        x.ask(1);
        bring(x, 1, 0, REQUEST);
        bring(x, 0, 1, FAIL);
        for (int seed = 0; seed < 5; seed++) {
            Check.due("to LEAVE, RELEASE, GRANT", x.entersBy(1, seed), 3);
        }
        Check.due("to LEAVE, RELEASE, GRANT", x.soonest(1, 40), 3);
        Check.due("to LEAVE", x.goOn(0, 1), 1);
        Check.due("no BRINGING", x.is(6), 4);
        Check.due("RELEASE, GRANT", x.entersBy(1, 0), 2);
    }

    /** For each pair from, to (by from, then by to) to bring the first; for each that is INSIDE (rising) to LEAVE. */
    private static void movesInTheirOrder() {
        QuorumGate x = new QuorumGate();
        x.majority(2);
        x.base(0, 2);
        x.base(1, 1);
        x.ask(0);
        x.ask(1);
        bring(x, 0, 1, REQUEST);
        bring(x, 1, 0, REQUEST);
        // Of two STATES the second is by the first MOVE: the GRANT from 0 to 1, not that from 1 to 0.
        Check.due("by from", x.soonest(1, 2), 1);
        Check.due("by from", x.soonest(0, 2), -1);
        Check.due("the other as the third", x.soonest(0, 3), 1);
        // By the seed 0 the first DRAW is 0.
        Check.due("by from", x.goOn(0, 1), 1);
        Check.due("by from", x.trace(0, 1), 0);
        Check.due("letters, then to LEAVE", x.soonest(0, 2), 1);
        Check.due("letters, then to LEAVE", x.goOn(0, 1), 1);
        Check.due("two inside", x.is(2), 3);
        Check.due("rising", x.goOn(0, 1), 1);
        Check.due("the lesser has left", x.is(2), 2);
        QuorumGate y = Gates.like(3, 6);
        y.ask(0);
        Check.due("by to", y.goOn(0, 1), 1);
        Check.due("by to", y.trace(0, 2), 1);
    }

    /** With ASKERS, behind those: for each of the set (rising), to ASK. */
    private static void askersInTheirOrder() {
        QuorumGate x = new QuorumGate();
        x.majority(3);
        x.base(0, 1);
        x.base(1, 3);
        x.base(2, 7);
        for (int askers = 1; askers < 8; askers++) {
            int first = Integer.numberOfTrailingZeros(askers);
            Check.due("REQUESTS of the first of " + askers, x.searchedBy(askers, 2, 3), first + 1);
        }
        x.ask(0);
        Check.due("behind the letters", x.searchedBy(6, 2, 3), 1);
        Check.due("then to ask", x.searchedBy(6, 3, 3), 3);
        Check.due("then the other", x.searchedBy(6, 4, 3), 4);
    }

    /** An entry OVERTAKES, whoever else is INSIDE. */
    private static void overtakingBesideOthers() {
        QuorumGate x = Gates.alone(4);
        x.ask(0);
        for (int v = 1; v < 4; v++) {
            x.ask(v);
            x.bring(v, v);
            x.bring(v, v);
            Check.due("overtook 0", x.is(11), v);
            Check.due("together", x.is(7), v - 1);
        }
        x.bring(0, 0);
        x.bring(0, 0);
        Check.due("nobody is asking", x.is(11), 3);
    }

    /** Some one's CLOCK comes to be so many, by letters of another one that asks it and withdraws. */
    private static void raiseClocks(QuorumGate x, int by, int clock, int... nodes) {
        for (int i = 0; i < clock; i++) {
            x.ask(by);
            x.withdraw(by);
            for (int v : nodes) {
                bring(x, by, v, REQUEST);
                bring(x, by, v, RELEASE);
            }
        }
        for (int v : nodes) {
            Check.due("CLOCK of " + v, x.node(v, 1), clock);
        }
    }

    /** If one that is ASKING then is ahead of it (by STAMPS), whatever the CLOCKS are. */
    private static void overtakingByStampsNotClocks() {
        for (int earlier = 0; earlier < 2; earlier++) {
            int later = 1 - earlier;
            for (int entering = 0; entering < 2; entering++) {
                QuorumGate x = Gates.alone(3);
                x.base(2, 1 << earlier);
                x.ask(earlier);
                raiseClocks(x, 2, 7, earlier);
                x.ask(later);
                x.withdraw(later);
                Check.due("later", x.ask(later), 2);
                Check.due("its CLOCK", x.node(later, 1), 2);
                int letters = entering == earlier ? 2 : 5;
                for (int i = 0; i < letters; i++) {
                    x.bring(entering, entering);
                }
                Check.due("inside", x.is(2), 1 << entering);
                Check.due("overtook, if it asked later", x.is(11), entering == later ? 1 : 0);
            }
        }
    }

    /** LETTERS go with a STAMP: of who asks, was GRANTED or waits, not with any CLOCK. */
    private static void lettersByStampsNotClocks() {
        for (int failsFirst = 0; failsFirst < 2; failsFirst++) {
            QuorumGate x = Gates.like(3, 3);
            x.ask(0);
            x.ask(1);
            raiseClocks(x, 2, 7, 0, 1);
            byStampOne(x, 1, 1, REQUEST);
            byStampOne(x, 0, 1, REQUEST);
            byStampOne(x, 0, 0, REQUEST);
            byStampOne(x, 1, 0, REQUEST);
            byStampOne(x, 1, 1, GRANT);
            if (failsFirst == 1) {
                byStampOne(x, 0, 1, FAIL);
            }
            byStampOne(x, 1, 1, INQUIRE);
            if (failsFirst == 0) {
                byStampOne(x, 0, 1, FAIL);
            }
            asker(x, 1, 1, 0, 0, 3);
            byStampOne(x, 1, 1, YIELD);
            arbiter(x, 1, 0, 1, 0, 1);
            Check.due("it waits by its STAMP", x.waiting(1, 0, 1), 1);
            byStampOne(x, 1, 0, GRANT);
            byStampOne(x, 0, 0, GRANT);
            Check.due("inside by its STAMP", x.book(0, 1), 1);
            x.leave(0);
            byStampOne(x, 0, 1, RELEASE);
            byStampOne(x, 0, 0, RELEASE);
            byStampOne(x, 1, 1, GRANT);
            byStampOne(x, 0, 1, GRANT);
            Check.due("inside by its STAMP", x.book(0, 0) * 10 + x.book(0, 1), 11);
            Check.due("CLOCKS as they were", x.node(0, 1) * 10 + x.node(1, 1), 77);
        }
    }

    private static void byStampOne(QuorumGate x, int from, int to, int kind) {
        bring(x, from, to, kind);
        Check.due("STAMP", x.trace(0, 3), 1);
    }

    /** With ASKERS: its STAMP is by its CLOCK, and so behind whom is GRANTED. */
    private static void askersByTheirClocks() {
        QuorumGate x = Gates.like(2, 2);
        for (int i = 1; i <= 3; i++) {
            x.ask(0);
            x.withdraw(0);
            x.goOn(i, 500);
        }
        Check.due("ask", x.ask(0), 4);
        bring(x, 0, 1, REQUEST);
        Check.due("CLOCK", x.node(1, 1), 4);
        Check.due("STAMP", x.node(1, 2), 0);
        // 0: GRANT, inside, RELEASE, all done; 1: idle, REQUEST: 4 times 2. FAIL on the way or brought, while 0 is
        // GRANTED: 6. Behind that GRANT; FAIL and GRANT; GRANT with FAILS; inside; RELEASE; all done: 6.
        int[] want = {20, 0, 0, 2, 1, 8};
        for (int what = 0; what < 6; what++) {
            Check.due("searchedBy(2, 40, " + what + ")", x.searchedBy(2, 40, what), want[what]);
        }
    }
}
