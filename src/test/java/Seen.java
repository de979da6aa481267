/** What tests of letters look at, for them to extend. */
abstract class Seen {
    static final int REQUEST = 0;
    static final int GRANT = 1;
    static final int FAIL = 2;
    static final int INQUIRE = 3;
    static final int YIELD = 4;
    static final int RELEASE = 5;

    static void bring(QuorumGate x, int from, int to, int kind) {
        Check.due("bring(" + from + ", " + to + ")", x.bring(from, to), kind);
    }

    static void lane(QuorumGate x, int from, int to, int... kinds) {
        Check.due("way(" + from + ", " + to + ", -1)", x.way(from, to, -1), kinds.length);
        for (int k = 0; k < kinds.length; k++) {
            Check.due("way(" + from + ", " + to + ", " + k + ")", x.way(from, to, k), kinds[k]);
        }
        Check.due("no more letters", x.way(from, to, kinds.length), -1);
    }

    static void asker(QuorumGate x, int node, int how, int votes, int doubts, int fails) {
        Check.due("how " + node + " is", x.node(node, 0), how);
        Check.due("votes of " + node, x.node(node, 3), votes);
        Check.due("doubts of " + node, x.node(node, 4), doubts);
        Check.due("fails of " + node, x.node(node, 5), fails);
    }

    static void arbiter(QuorumGate x, int node, int granted, int stamp, int inquired, int waiting) {
        Check.due("granted by " + node, x.arbiter(node, 0), granted);
        Check.due("stamp granted by " + node, x.arbiter(node, 1), stamp);
        Check.due("inquired by " + node, x.arbiter(node, 2), inquired);
        Check.due("waiting at " + node, x.arbiter(node, 3), waiting);
    }
}
