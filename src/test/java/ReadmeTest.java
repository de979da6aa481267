/** What README.md shows of how to use the class: each answer that it names. */
final class ReadmeTest {
    private ReadmeTest() {
    }

    public static void main(String[] args) {
        QuorumGate gate = new QuorumGate();
        Check.due("ask(0)", gate.ask(0), 1);
        Check.due("bring(0, 1)", gate.bring(0, 1), 0);
        Check.due("ask(3)", gate.ask(3), 1);
        Check.due("entersBy(3, 7)", gate.entersBy(3, 7), 19);
        Check.due("timed(5, 3, 3)", gate.timed(5, 3, 3), 9);
        Check.due("searched(40, 1)", gate.searched(40, 1), 0);
        Check.due("goOn(7, 500)", gate.goOn(7, 500), 23);
        Check.due("is(5)", gate.is(5), 2);
        Check.due("book(0, 0)", gate.book(0, 0), 3);
        Check.due("majority(5)", gate.majority(5), 5);
        Check.due("weakest(1)", gate.weakest(1), 5);
        Check.due("chance(1)", gate.chance(1), 954990);
        Check.due("breakDown(4)", gate.breakDown(4), true);
        Check.due("quorum(3, 1)", gate.quorum(3, 1), 7);
        Check.end("ReadmeTest");
    }
}
