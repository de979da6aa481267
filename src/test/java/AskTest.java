/** Promises 10 and 23 to 32: asking, letters, breaking, mending. The answers due are worked out by hand. */
final class AskTest extends Seen {
    private static final int[] WRONG = {-1, 2, 3, 16, Integer.MAX_VALUE, Integer.MIN_VALUE};

    private AskTest() {
    }

    public static void main(String[] args) {
        quorumsNow();
        quorumsOfTreesNow();
        asking();
        clocks();
        entering();
        leaving();
        withdrawing();
        firstInFirstServed();
        inquiring();
        inquiringOnce();
        failingTheFormerFirst();
        notFailingOneBehind();
        failingTwice();
        doubtingToTheEnd();
        inquiringWithFails();
        yieldingAll();
        staleLetters();
        staleYield();
        releasedWhileWaiting();
        breaking();
        breakingWithoutQuorum();
        breakingOneThatWaited();
        breakingOneThatIsGranted();
        breakingWhileInside();
        breakingForgetsInquiry();
        mending();
        wrongNodes();
        lanes();
        waiters();
        Check.end("AskTest");
    }

    /** Two nodes, each in the base of each. */
    private static QuorumGate two() {
        QuorumGate x = new QuorumGate();
        x.majority(2);
        return x;
    }

    /** Three nodes, each base all three. */
    private static QuorumGate three() {
        QuorumGate x = new QuorumGate();
        x.majority(3);
        x.base(0, 7);
        x.base(1, 7);
        x.base(2, 7);
        return x;
    }

    private static void quorumsNow() {
        QuorumGate x = new QuorumGate();
        x.grid(3);
        x.breakDown(0);
        Check.due("base of 1", x.quorum(1, 0), 2 + 4 + 1 + 16 + 128);
        for (int v : new int[] {0, 1, 2, 3, 6}) {
            Check.due("the least whole one for " + v, x.quorum(v, 1), 186);
        }
        Check.due("its own", x.quorum(8, 1), 4 + 32 + 64 + 128 + 256);
        x.breakDown(4);
        // Whole bases have neither 0 nor 4: those of 8 alone.
        Check.due("the least whole one", x.quorum(5, 1), 4 + 32 + 64 + 128 + 256);
        x.breakDown(8);
        Check.due("none", x.quorum(5, 1), 0);
        Check.due("base, whatever is broken", x.quorum(0, 0), 1 + 2 + 4 + 8 + 64);
        x.wheel(4);
        x.breakDown(0);
        Check.due("of a broken one its base, if that is whole", x.quorum(0, 1), 14);
        Check.due("of another", x.quorum(2, 1), 14);
        Check.due("what 3", x.quorum(0, 3), -1);
        Check.due("what -1", x.quorum(0, -1), -1);
        for (int v : new int[] {-1, 4, 16, Integer.MAX_VALUE, Integer.MIN_VALUE}) {
            for (int what = 0; what <= 2; what++) {
                Check.due("quorum(" + v + ", " + what + ")", x.quorum(v, what), -1);
            }
        }
    }

    private static void quorumsOfTreesNow() {
        QuorumGate x = new QuorumGate();
        x.tree(3);
        x.breakDown(3);
        Check.due("on by the second one", x.quorum(3, 1), 1 + 2 + 16);
        Check.due("its own", x.quorum(6, 1), 1 + 4 + 64);
        x.breakDown(4);
        Check.due("on by the second one of the root", x.quorum(0, 1), 1 + 4 + 32);
        x.breakDown(2);
        Check.due("none below the root", x.quorum(0, 1), 1 + 32 + 64);
        x.breakDown(5);
        Check.due("none", x.quorum(0, 1), 0);
        Check.due("nobody can ask", x.ask(1), -1);
        x.tree(3);
        x.breakDown(0);
        Check.due("both below the root", x.quorum(1, 1), 2 + 8 + 4 + 32);
        x.breakDown(1);
        x.breakDown(2);
        Check.due("the leaves", x.quorum(6, 1), 8 + 16 + 32 + 64);
        Check.due("ask by the leaves", x.ask(6), 1);
        Check.due("in use", x.quorum(6, 2), 120);
    }

    private static void asking() {
        QuorumGate x = new QuorumGate();
        Check.due("ask(3)", x.ask(3), 1);
        asker(x, 3, 1, 0, 0, 0);
        Check.due("clock", x.node(3, 1), 1);
        Check.due("stamp", x.node(3, 2), 1);
        Check.due("in use", x.quorum(3, 2), 14);
        lane(x, 3, 0);
        lane(x, 3, 1, REQUEST);
        lane(x, 3, 2, REQUEST);
        lane(x, 3, 3, REQUEST);
        Check.due("asking already", x.ask(3), -1);
        Check.due("no more letters", x.is(1), 3);
        Check.due("clock", x.node(3, 1), 1);
        x.goOn(1, 6);
        Check.due("inside", x.ask(3), -1);
        Check.due("how", x.node(3, 0), 2);
        x.breakDown(0);
        Check.due("broken", x.ask(0), -1);
        x.breakDown(1);
        Check.due("without quorum", x.ask(2), -1);
        Check.due("clock without asking", x.node(2, 1), 1);
    }

    private static void clocks() {
        QuorumGate x = two();
        Check.due("first", x.ask(0), 1);
        x.withdraw(0);
        Check.due("again", x.ask(0), 2);
        x.withdraw(0);
        Check.due("and again", x.ask(0), 3);
        Check.due("clock of another", x.node(1, 1), 0);
        bring(x, 0, 1, REQUEST);
        Check.due("as the letter's stamp", x.node(1, 1), 1);
        bring(x, 0, 1, RELEASE);
        bring(x, 0, 1, REQUEST);
        Check.due("as the letter's stamp", x.node(1, 1), 2);
        Check.due("one more", x.ask(1), 3);
        Check.due("stamp stays", x.node(0, 2), 3);
        x.withdraw(0);
        Check.due("stamp stays when idle", x.node(0, 2), 3);
        bring(x, 1, 0, GRANT);
        Check.due("the greater of both", x.node(0, 1), 3);
    }

    private static void entering() {
        QuorumGate x = two();
        x.ask(0);
        bring(x, 0, 0, REQUEST);
        arbiter(x, 0, 0, 1, 0, 0);
        lane(x, 0, 0, GRANT);
        bring(x, 0, 0, GRANT);
        asker(x, 0, 1, 1, 0, 0);
        bring(x, 0, 1, REQUEST);
        bring(x, 1, 0, GRANT);
        asker(x, 0, 2, 3, 0, 0);
        Check.due("in use inside", x.quorum(0, 2), 3);
        Check.due("times inside", x.node(0, 7), 1);
        Check.due("inside", x.is(2), 1);
        Check.due("asking", x.is(3), 0);
    }

    private static void leaving() {
        QuorumGate x = two();
        Check.due("idle", x.leave(0), false);
        x.ask(0);
        Check.due("asking", x.leave(0), false);
        x.goOn(0, 4);
        Check.due("inside", x.leave(0), true);
        asker(x, 0, 0, 0, 0, 0);
        Check.due("in use", x.quorum(0, 2), 0);
        lane(x, 0, 0, RELEASE);
        lane(x, 0, 1, RELEASE);
        Check.due("idle again", x.leave(0), false);
        arbiter(x, 0, 0, 1, 0, 0);
        bring(x, 0, 0, RELEASE);
        arbiter(x, 0, -1, -1, 0, 0);
        Check.due("times inside", x.node(0, 7), 1);
    }

    private static void withdrawing() {
        QuorumGate x = two();
        Check.due("idle", x.withdraw(0), false);
        x.ask(0);
        bring(x, 0, 0, REQUEST);
        bring(x, 0, 0, GRANT);
        Check.due("asking", x.withdraw(0), true);
        asker(x, 0, 0, 0, 0, 0);
        Check.due("in use", x.quorum(0, 2), 0);
        lane(x, 0, 0, RELEASE);
        lane(x, 0, 1, REQUEST, RELEASE);
        Check.due("no entry", x.is(5), 0);
        x.goOn(0, 500);
        x.ask(0);
        x.goOn(0, 4);
        Check.due("inside", x.withdraw(0), false);
        Check.due("inside still", x.is(2), 1);
    }

    private static void firstInFirstServed() {
        QuorumGate x = three();
        x.ask(0);
        bring(x, 0, 2, REQUEST);
        bring(x, 0, 1, REQUEST);
        x.ask(1);
        x.ask(2);
        bring(x, 2, 2, REQUEST);
        lane(x, 2, 2, FAIL);
        bring(x, 1, 2, REQUEST);
        lane(x, 2, 1, REQUEST, FAIL);
        arbiter(x, 2, 0, 1, 0, 2);
        Check.due("the lesser node first", x.waiting(2, 0, 0), 1);
        Check.due("its stamp", x.waiting(2, 0, 1), 2);
        Check.due("then the other", x.waiting(2, 1, 0), 2);
        x.withdraw(0);
        bring(x, 0, 2, RELEASE);
        arbiter(x, 2, 1, 2, 0, 1);
        lane(x, 2, 1, REQUEST, FAIL, GRANT);
    }

    private static void inquiring() {
        QuorumGate x = two();
        x.ask(0);
        x.ask(1);
        bring(x, 1, 1, REQUEST);
        bring(x, 0, 1, REQUEST);
        arbiter(x, 1, 1, 1, 1, 1);
        lane(x, 1, 1, GRANT, INQUIRE);
        lane(x, 1, 0, REQUEST);
        bring(x, 1, 1, GRANT);
        bring(x, 1, 1, INQUIRE);
        asker(x, 1, 1, 2, 2, 0);
        bring(x, 0, 0, REQUEST);
        bring(x, 1, 0, REQUEST);
        lane(x, 0, 1, FAIL);
        bring(x, 0, 1, FAIL);
        asker(x, 1, 1, 0, 0, 3);
        lane(x, 1, 1, YIELD);
        bring(x, 1, 1, YIELD);
        arbiter(x, 1, 0, 1, 0, 1);
        Check.due("the one that yielded waits", x.waiting(1, 0, 0), 1);
        Check.due("by its stamp", x.waiting(1, 0, 1), 1);
        bring(x, 1, 0, GRANT);
        bring(x, 0, 0, GRANT);
        asker(x, 0, 2, 3, 0, 0);
        x.leave(0);
        bring(x, 0, 1, RELEASE);
        bring(x, 1, 1, GRANT);
        asker(x, 1, 1, 2, 0, 1);
        bring(x, 0, 0, RELEASE);
        bring(x, 0, 1, GRANT);
        asker(x, 1, 2, 3, 0, 0);
        Check.due("entries", x.is(5), 2);
        Check.due("one at a time", x.is(7), 0);
    }

    private static void inquiringOnce() {
        QuorumGate x = three();
        x.ask(2);
        x.ask(1);
        x.ask(0);
        bring(x, 2, 2, REQUEST);
        bring(x, 1, 2, REQUEST);
        arbiter(x, 2, 2, 1, 1, 1);
        bring(x, 0, 2, REQUEST);
        arbiter(x, 2, 2, 1, 1, 2);
        lane(x, 2, 2, GRANT, INQUIRE);
        // The former first was ahead of whom is granted: it fails now.
        lane(x, 2, 1, REQUEST, FAIL);
        lane(x, 2, 0, REQUEST);
        Check.due("inquired once", x.sent(INQUIRE), 1);
        Check.due("failed once", x.sent(FAIL), 1);
    }

    private static void failingTheFormerFirst() {
        QuorumGate x = three();
        x.ask(1);
        x.ask(0);
        x.ask(2);
        x.withdraw(2);
        Check.due("behind", x.ask(2), 2);
        bring(x, 2, 0, REQUEST);
        bring(x, 2, 0, RELEASE);
        bring(x, 2, 0, REQUEST);
        arbiter(x, 0, 2, 2, 0, 0);
        bring(x, 1, 0, REQUEST);
        arbiter(x, 0, 2, 2, 1, 1);
        bring(x, 0, 0, REQUEST);
        arbiter(x, 0, 2, 2, 1, 2);
        lane(x, 0, 1, REQUEST, FAIL);
        bring(x, 0, 1, REQUEST);
        bring(x, 0, 1, FAIL);
        asker(x, 1, 1, 0, 0, 1);
    }

    private static void notFailingOneBehind() {
        QuorumGate x = three();
        x.ask(0);
        x.ask(1);
        x.ask(2);
        bring(x, 1, 1, REQUEST);
        bring(x, 2, 1, REQUEST);
        lane(x, 1, 2, REQUEST, FAIL);
        bring(x, 0, 1, REQUEST);
        // The former first is behind whom is granted and failed when it came.
        lane(x, 1, 2, REQUEST, FAIL);
        lane(x, 1, 1, GRANT, INQUIRE);
        arbiter(x, 1, 1, 1, 1, 2);
        Check.due("first waiting", x.waiting(1, 0, 0), 0);
        Check.due("second waiting", x.waiting(1, 1, 0), 2);
    }

    private static void failingTwice() {
        QuorumGate x = three();
        x.ask(0);
        bring(x, 0, 0, REQUEST);
        bring(x, 0, 1, REQUEST);
        x.ask(2);
        bring(x, 2, 0, REQUEST);
        bring(x, 2, 1, REQUEST);
        bring(x, 0, 2, REQUEST);
        bring(x, 0, 2, FAIL);
        asker(x, 2, 1, 0, 0, 1);
        bring(x, 1, 2, FAIL);
        asker(x, 2, 1, 0, 0, 3);
    }

    /** Who has doubts may come to be inside, or withdraw: then it has none. */
    private static void doubtingToTheEnd() {
        for (int ending = 0; ending < 2; ending++) {
            QuorumGate x = two();
            x.ask(1);
            x.ask(0);
            bring(x, 1, 1, REQUEST);
            bring(x, 0, 1, REQUEST);
            bring(x, 1, 1, GRANT);
            bring(x, 1, 1, INQUIRE);
            asker(x, 1, 1, 2, 2, 0);
            if (ending == 0) {
                bring(x, 1, 0, REQUEST);
                bring(x, 0, 1, GRANT);
                asker(x, 1, 2, 3, 0, 0);
            } else {
                x.withdraw(1);
                asker(x, 1, 0, 0, 0, 0);
                x.ask(1);
                asker(x, 1, 1, 0, 0, 0);
            }
        }
    }

    /** One that comes ahead of whom is granted, but not first, fails. */
    private static void inquiringWithFails() {
        QuorumGate x = three();
        x.ask(2);
        x.ask(0);
        x.ask(1);
        bring(x, 2, 2, REQUEST);
        bring(x, 0, 2, REQUEST);
        bring(x, 1, 2, REQUEST);
        lane(x, 2, 1, REQUEST, FAIL);
        lane(x, 2, 0, REQUEST);
        bring(x, 0, 0, REQUEST);
        bring(x, 2, 0, REQUEST);
        bring(x, 0, 2, FAIL);
        bring(x, 2, 2, GRANT);
        asker(x, 2, 1, 4, 0, 1);
        bring(x, 2, 2, INQUIRE);
        asker(x, 2, 1, 0, 0, 5);
        lane(x, 2, 2, YIELD);
        bring(x, 2, 2, YIELD);
        arbiter(x, 2, 0, 1, 0, 2);
        Check.due("the other is ahead still", x.waiting(2, 0, 0), 1);
    }

    private static void yieldingAll() {
        QuorumGate x = three();
        x.ask(2);
        bring(x, 2, 1, REQUEST);
        bring(x, 1, 2, GRANT);
        bring(x, 2, 2, REQUEST);
        bring(x, 2, 2, GRANT);
        x.ask(0);
        bring(x, 0, 1, REQUEST);
        bring(x, 0, 2, REQUEST);
        bring(x, 1, 2, INQUIRE);
        bring(x, 2, 2, INQUIRE);
        asker(x, 2, 1, 6, 6, 0);
        bring(x, 0, 0, REQUEST);
        bring(x, 2, 0, REQUEST);
        bring(x, 0, 2, FAIL);
        asker(x, 2, 1, 0, 0, 7);
        lane(x, 2, 1, YIELD);
        lane(x, 2, 2, YIELD);
        Check.due("yields", x.sent(YIELD), 2);
        bring(x, 2, 1, YIELD);
        bring(x, 1, 0, GRANT);
        bring(x, 0, 0, GRANT);
        bring(x, 2, 2, YIELD);
        bring(x, 2, 0, GRANT);
        asker(x, 0, 2, 7, 0, 0);
        x.leave(0);
        bring(x, 0, 1, RELEASE);
        bring(x, 1, 2, GRANT);
        asker(x, 2, 1, 2, 0, 5);
    }

    private static void staleLetters() {
        QuorumGate x = two();
        x.ask(0);
        bring(x, 0, 0, REQUEST);
        x.withdraw(0);
        x.ask(0);
        lane(x, 0, 0, GRANT, RELEASE, REQUEST);
        bring(x, 0, 0, GRANT);
        asker(x, 0, 1, 0, 0, 0);
        bring(x, 0, 0, RELEASE);
        bring(x, 0, 0, REQUEST);
        arbiter(x, 0, 0, 2, 0, 0);
        bring(x, 0, 1, REQUEST);
        x.ask(1);
        bring(x, 1, 1, REQUEST);
        bring(x, 1, 1, FAIL);
        asker(x, 1, 1, 0, 0, 2);
        x.withdraw(1);
        x.ask(1);
        asker(x, 1, 1, 0, 0, 0);
        Check.due("stamp of 1", x.node(1, 2), 3);
        bring(x, 1, 0, GRANT);
        asker(x, 0, 1, 0, 0, 0);
        // A FAIL and an INQUIRE by an older stamp, and to one that is idle.
        QuorumGate y = two();
        y.ask(1);
        y.ask(0);
        bring(y, 1, 1, REQUEST);
        bring(y, 0, 1, REQUEST);
        bring(y, 0, 0, REQUEST);
        bring(y, 1, 0, REQUEST);
        y.withdraw(1);
        bring(y, 1, 1, GRANT);
        bring(y, 1, 1, INQUIRE);
        asker(y, 1, 0, 0, 0, 0);
        y.ask(1);
        bring(y, 0, 1, FAIL);
        asker(y, 1, 1, 0, 0, 0);
    }

    private static void staleYield() {
        QuorumGate x = two();
        x.ask(1);
        x.ask(0);
        bring(x, 1, 1, REQUEST);
        bring(x, 0, 1, REQUEST);
        bring(x, 0, 0, REQUEST);
        bring(x, 1, 0, REQUEST);
        bring(x, 0, 1, FAIL);
        bring(x, 1, 1, GRANT);
        bring(x, 1, 1, INQUIRE);
        lane(x, 1, 1, YIELD);
        x.withdraw(1);
        lane(x, 1, 1, YIELD, RELEASE);
        bring(x, 1, 1, YIELD);
        arbiter(x, 1, 0, 1, 0, 1);
        bring(x, 1, 1, RELEASE);
        arbiter(x, 1, 0, 1, 0, 0);
    }

    /** A RELEASE of one that waits: it waits no more, and nothing else. */
    private static void releasedWhileWaiting() {
        QuorumGate x = two();
        x.ask(1);
        x.ask(0);
        bring(x, 1, 1, REQUEST);
        bring(x, 0, 1, REQUEST);
        arbiter(x, 1, 1, 1, 1, 1);
        x.withdraw(0);
        bring(x, 0, 1, RELEASE);
        arbiter(x, 1, 1, 1, 1, 0);
        Check.due("letters", x.is(1), 5);
        x.withdraw(1);
        bring(x, 1, 1, GRANT);
        bring(x, 1, 1, INQUIRE);
        bring(x, 1, 1, RELEASE);
        arbiter(x, 1, -1, -1, 0, 0);
    }

    private static void breaking() {
        QuorumGate x = new QuorumGate();
        x.ask(0);
        bring(x, 0, 0, REQUEST);
        bring(x, 0, 0, GRANT);
        Check.due("asking", x.breakDown(0), false);
        Check.due("idle", x.breakDown(1), true);
        Check.due("broken already", x.breakDown(1), false);
        Check.due("broken", x.node(1, 6), 1);
        Check.due("broken, as bits", x.is(4), 2);
        lane(x, 0, 0, RELEASE, REQUEST);
        lane(x, 0, 1);
        lane(x, 0, 2, REQUEST, RELEASE, REQUEST);
        lane(x, 0, 3, REQUEST);
        asker(x, 0, 1, 0, 0, 0);
        Check.due("asked again", x.node(0, 2), 2);
        Check.due("the base of 2", x.quorum(0, 2), 13);
        Check.due("sent requests", x.sent(REQUEST), 6);
        Check.due("sent releases", x.sent(RELEASE), 2);
        x.goOn(3, 12);
        x.goOn(3, 500);
        Check.due("was inside", x.node(0, 7), 1);
        Check.due("all is still", x.is(1) + x.is(2) + x.is(3), 0);
    }

    private static void breakingWithoutQuorum() {
        QuorumGate x = two();
        x.ask(0);
        bring(x, 0, 0, REQUEST);
        x.breakDown(1);
        asker(x, 0, 0, 0, 0, 0);
        Check.due("not asked again", x.node(0, 2), 1);
        Check.due("in use", x.quorum(0, 2), 0);
        lane(x, 0, 0, GRANT, RELEASE);
        lane(x, 0, 1);
        Check.due("letters", x.is(1), 2);
        x.goOn(0, 2);
        arbiter(x, 0, -1, -1, 0, 0);
    }

    /** Granted and waiting ones that break are released everywhere; what is ready then is granted. */
    private static void breakingOneThatWaited() {
        QuorumGate x = three();
        x.base(0, 6);
        x.base(1, 6);
        x.base(2, 6);
        x.ask(0);
        bring(x, 0, 1, REQUEST);
        x.ask(1);
        x.ask(2);
        bring(x, 2, 2, REQUEST);
        bring(x, 0, 2, REQUEST);
        bring(x, 1, 1, REQUEST);
        arbiter(x, 1, 0, 1, 0, 1);
        arbiter(x, 2, 2, 1, 1, 1);
        x.withdraw(0);
        lane(x, 0, 1, RELEASE);
        lane(x, 1, 0, GRANT);
        Check.due("break", x.breakDown(0), true);
        lane(x, 0, 1);
        lane(x, 0, 2);
        lane(x, 1, 0);
        arbiter(x, 1, 1, 2, 0, 0);
        lane(x, 1, 1, FAIL, GRANT);
        // It had inquired for the one that is gone, and does not know.
        arbiter(x, 2, 2, 1, 1, 0);
        Check.due("the others ask as before", x.is(3), 6);
        Check.due("in use as before", x.quorum(1, 2), 6);
    }

    private static void breakingOneThatIsGranted() {
        QuorumGate x = three();
        x.base(1, 2);
        x.ask(0);
        bring(x, 0, 1, REQUEST);
        x.withdraw(0);
        arbiter(x, 1, 0, 1, 0, 0);
        x.breakDown(0);
        arbiter(x, 1, -1, -1, 0, 0);
        Check.due("nothing is left", x.is(1), 0);
        Check.due("by its own base", x.ask(1), 2);
        bring(x, 1, 1, REQUEST);
        bring(x, 1, 1, GRANT);
        asker(x, 1, 2, 2, 0, 0);
    }

    private static void breakingWhileInside() {
        QuorumGate x = two();
        x.ask(0);
        x.goOn(0, 4);
        Check.due("inside", x.is(2), 1);
        Check.due("who is inside can't", x.breakDown(0), false);
        x.breakDown(1);
        Check.due("in use without it", x.quorum(0, 2), 1);
        Check.due("votes as they were", x.node(0, 3), 3);
        Check.due("inside still", x.is(2), 1);
        arbiter(x, 1, -1, -1, 0, 0);
        x.leave(0);
        lane(x, 0, 0, RELEASE);
        lane(x, 0, 1);
        Check.due("releases", x.sent(RELEASE), 1);
    }

    private static void breakingForgetsInquiry() {
        QuorumGate x = two();
        x.ask(1);
        x.ask(0);
        bring(x, 1, 1, REQUEST);
        bring(x, 0, 1, REQUEST);
        arbiter(x, 1, 1, 1, 1, 1);
        x.withdraw(1);
        x.breakDown(1);
        arbiter(x, 1, -1, -1, 0, 0);
        Check.due("all letters of it are gone", x.way(1, 1, -1) + x.way(1, 0, -1) + x.way(0, 1, -1), 0);
        QuorumGate y = three();
        y.ask(2);
        y.ask(0);
        bring(y, 2, 1, REQUEST);
        bring(y, 0, 1, REQUEST);
        arbiter(y, 1, 2, 1, 1, 1);
        y.withdraw(2);
        y.breakDown(2);
        arbiter(y, 1, 0, 1, 0, 0);
        // 0 had it in use and asks no more, as no base is whole.
        lane(y, 1, 0, GRANT);
        lane(y, 0, 1, RELEASE);
        lane(y, 0, 0, REQUEST, RELEASE);
        Check.due("nobody asks", y.is(3), 0);
    }

    private static void mending() {
        QuorumGate x = two();
        Check.due("not broken", x.mend(0), false);
        x.ask(0);
        x.goOn(0, 4);
        x.breakDown(1);
        Check.due("somebody inside", x.mend(1), false);
        x.leave(0);
        Check.due("letters", x.mend(1), false);
        x.goOn(0, 500);
        Check.due("quorum", x.quorum(1, 1), 0);
        Check.due("all still", x.mend(1), true);
        Check.due("mended", x.node(1, 6), 0);
        Check.due("mended already", x.mend(1), false);
        Check.due("quorum", x.quorum(1, 1), 3);
        Check.due("clock stays", x.node(1, 1), 1);
        Check.due("entries stay", x.is(5), 1);
        Check.due("asks again", x.ask(1), 2);
        QuorumGate y = new QuorumGate();
        y.breakDown(3);
        y.ask(0);
        Check.due("somebody asking", y.mend(3), false);
        y.breakDown(1);
        Check.due("no base is whole", y.is(3), 0);
        Check.due("letters on the way", y.mend(3), false);
        y.goOn(0, 500);
        Check.due("two broken", y.is(4), 10);
        Check.due("the one", y.mend(3), true);
        Check.due("not the other", y.is(4), 2);
    }

    private static void wrongNodes() {
        QuorumGate x = two();
        x.ask(0);
        for (int v : WRONG) {
            Check.due("ask(" + v + ")", x.ask(v), -1);
            Check.due("leave(" + v + ")", x.leave(v), false);
            Check.due("withdraw(" + v + ")", x.withdraw(v), false);
            Check.due("breakDown(" + v + ")", x.breakDown(v), false);
            Check.due("mend(" + v + ")", x.mend(v), false);
            Check.due("bring(" + v + ", 0)", x.bring(v, 0), -1);
            Check.due("bring(0, " + v + ")", x.bring(0, v), -1);
            Check.due("node(" + v + ", 0)", x.node(v, 0), -1);
            Check.due("arbiter(" + v + ", 2)", x.arbiter(v, 2), -1);
            Check.due("waiting(" + v + ", 0, 0)", x.waiting(v, 0, 0), -1);
            Check.due("way(" + v + ", 0, -1)", x.way(v, 0, -1), -1);
            Check.due("way(0, " + v + ", -1)", x.way(0, v, -1), -1);
        }
        for (int what : new int[] {-1, 8, 9, Integer.MAX_VALUE, Integer.MIN_VALUE}) {
            Check.due("node(0, " + what + ")", x.node(0, what), -1);
        }
        for (int what : new int[] {-1, 4, 5, Integer.MAX_VALUE, Integer.MIN_VALUE}) {
            Check.due("arbiter(0, " + what + ")", x.arbiter(0, what), -1);
        }
        Check.due("nothing was done", x.is(1), 2);
    }

    private static void lanes() {
        QuorumGate x = two();
        Check.due("none to bring", x.bring(0, 1), -1);
        x.ask(0);
        lane(x, 0, 1, REQUEST);
        lane(x, 1, 0);
        Check.due("k -2", x.way(0, 1, -2), -1);
        Check.due("k far", x.way(0, 1, Integer.MAX_VALUE), -1);
        Check.due("k far below", x.way(0, 1, Integer.MIN_VALUE), -1);
        for (int i = 0; i < 80; i++) {
            x.withdraw(0);
            x.ask(0);
        }
        Check.due("many letters", x.way(0, 1, -1), 161);
        Check.due("the last", x.way(0, 1, 160), REQUEST);
        Check.due("the one before", x.way(0, 1, 159), RELEASE);
        for (int i = 0; i < 80; i++) {
            bring(x, 0, 1, REQUEST);
            Check.due("its stamp", x.arbiter(1, 1), i + 1);
            bring(x, 0, 1, RELEASE);
        }
        lane(x, 0, 1, REQUEST);
        Check.due("way of the others", x.way(0, 0, -1), 161);
    }

    private static void waiters() {
        QuorumGate x = new QuorumGate();
        x.majority(4);
        for (int v = 0; v < 4; v++) {
            x.base(v, 1);
        }
        x.ask(3);
        bring(x, 3, 0, REQUEST);
        x.ask(1);
        x.withdraw(1);
        Check.due("later", x.ask(1), 2);
        x.ask(2);
        bring(x, 2, 0, REQUEST);
        bring(x, 1, 0, REQUEST);
        bring(x, 1, 0, RELEASE);
        bring(x, 1, 0, REQUEST);
        Check.due("ask(0)", x.ask(0), 3);
        bring(x, 0, 0, REQUEST);
        arbiter(x, 0, 3, 1, 1, 3);
        int[] nodes = {2, 1, 0};
        int[] stamps = {1, 2, 3};
        for (int i = 0; i < 3; i++) {
            Check.due("waiting(0, " + i + ", 0)", x.waiting(0, i, 0), nodes[i]);
            Check.due("waiting(0, " + i + ", 1)", x.waiting(0, i, 1), stamps[i]);
        }
        for (int i : new int[] {-1, 3, 4, 16, Integer.MAX_VALUE, Integer.MIN_VALUE}) {
            Check.due("waiting(0, " + i + ", 0)", x.waiting(0, i, 0), -1);
            Check.due("waiting(0, " + i + ", 1)", x.waiting(0, i, 1), -1);
        }
        Check.due("what 2", x.waiting(0, 0, 2), -1);
        Check.due("what -1", x.waiting(0, 0, -1), -1);
    }
}
