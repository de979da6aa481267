/** Gates that tests begin with, and what each test of a refused call looks at. */
final class Gates {
    /** A call of the face; a boolean counts 1 or 0. */
    interface Call {
        long on(QuorumGate x);
    }

    private Gates() {
    }

    /** So many nodes, all with one base. */
    static QuorumGate like(int n, int base) {
        QuorumGate x = new QuorumGate();
        x.majority(n);
        for (int v = 0; v < n; v++) {
            x.base(v, base);
        }
        return x;
    }

    /** So many nodes, each alone in its base. */
    static QuorumGate alone(int n) {
        QuorumGate x = new QuorumGate();
        x.majority(n);
        for (int v = 0; v < n; v++) {
            x.base(v, 1 << v);
        }
        return x;
    }

    /** So many of FILLED 16 have asked, rising. */
    static QuorumGate allAsked(int many) {
        QuorumGate x = new QuorumGate();
        x.filled(16);
        for (int v = 0; v < many; v++) {
            x.ask(v);
        }
        return x;
    }

    /** A call that answers as is due and leaves all as it is. */
    static void unchanged(String call, QuorumGate x, Call c, long due) {
        String before = Told.of(x);
        Check.due(call, c.on(x), due);
        Check.isTrue(call + " leaves all as it is", before.equals(Told.of(x)));
    }
}
