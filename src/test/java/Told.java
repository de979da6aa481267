/** All that an object tells of itself without a run, as one text: to see that a call left it as it was. */
final class Told {
    private Told() {
    }

    static String of(QuorumGate x) {
        StringBuilder s = new StringBuilder();
        for (int what = 0; what <= 12; what++) {
            s.append(x.is(what)).append(' ');
        }
        for (int kind = 0; kind <= 6; kind++) {
            s.append(x.sent(kind)).append(' ');
        }
        for (int v = 0; v < x.is(0); v++) {
            ofNode(s, x, v);
        }
        s.append("\nstops ").append(x.stops(1)).append(x.stops(3)).append(x.stops(5)).append("\nbook");
        for (int ago = 0; ago < x.book(-1, 0); ago++) {
            for (int what = 0; what < 4; what++) {
                s.append(' ').append(x.book(ago, what));
            }
        }
        s.append("\ntrace");
        for (int ago = 0; ago < x.trace(-1, 0); ago++) {
            for (int what = 0; what < 4; what++) {
                s.append(' ').append(x.trace(ago, what));
            }
        }
        s.append('\n').append(x.mean()).append(' ').append(x.byRoot()).append(' ').append(x.timed(3, 0, 0));
        return s.append(' ').append(x.timed(3, 0, 2)).append(' ').append(x.timed(3, 0, 4)).toString();
    }

    private static void ofNode(StringBuilder s, QuorumGate x, int v) {
        s.append("\nnode ").append(v);
        for (int what = 0; what <= 2; what++) {
            s.append(' ').append(x.quorum(v, what));
        }
        for (int what = 0; what <= 7; what++) {
            s.append(' ').append(x.node(v, what));
        }
        for (int what = 0; what <= 3; what++) {
            s.append(' ').append(x.arbiter(v, what));
        }
        for (int i = 0; i < x.arbiter(v, 3); i++) {
            s.append(" waits ").append(x.waiting(v, i, 0)).append(' ').append(x.waiting(v, i, 1));
        }
        s.append(' ').append(x.handled(v)).append(' ').append(x.waitsFor(v)).append(' ').append(x.unheard(v));
        for (int to = 0; to < x.is(0); to++) {
            for (int k = 0; k < x.way(v, to, -1); k++) {
                s.append(" to ").append(to).append(' ').append(x.way(v, to, k));
            }
        }
    }
}
