import java.util.StringJoiner;

/** What the tests share: the check itself, ways to show an object's state, ways to bring one about. */
final class Kit {
    private static final String[] KINDS = {
        "?", "JOIN", "FORWARDJOIN", "LINK", "DISCONNECT", "NEIGHBOR", "REJECT",
        "SHUFFLE", "SHUFFLEREPLY", "GOSSIP", "IHAVE", "GRAFT", "PRUNE"
    };
    static final int[] NOT_NODES_OF_16 = {Integer.MIN_VALUE, -17, -1, 16, 17, 32, Integer.MAX_VALUE};
    static final int[] NOT_SLOTS = {Integer.MIN_VALUE, -64, -1, 64, 65, 128, Integer.MAX_VALUE};

    private static int wrong = 0;

    private Kit() {
    }

    static void due(String what, String got, String want) {
        if (!got.equals(want)) {
            wrong++;
            System.out.println(what + " answered " + got + ", due is " + want);
        }
    }

    static void due(String what, long got, long want) {
        due(what, Long.toString(got), Long.toString(want));
    }

    static void due(String what, boolean got, boolean want) {
        due(what, Boolean.toString(got), Boolean.toString(want));
    }

    static void end() {
        if (wrong != 0) {
            System.out.println(wrong + " answers are not as due");
            System.exit(1);
        }
    }

    // ---- Showing ----

    /** The pool, as "slot:KIND from>to arg" for each used slot. */
    static String pool(GossipOverlay g) {
        StringJoiner all = new StringJoiner(", ");
        for (int slot = 0; slot < 64; slot++) {
            int code = g.message(slot);
            if (code != -1) {
                all.add(slot + ":" + KINDS[code >> 24] + " " + (code >> 20 & 15) + ">" + (code >> 16 & 15)
                    + " " + (code & 0xffff));
            }
        }
        return all.toString();
    }

    static String active(GossipOverlay g, int n) {
        StringJoiner all = new StringJoiner(" ");
        for (int i = 0; g.activeAt(n, i) != -1; i++) {
            all.add(Integer.toString(g.activeAt(n, i)));
        }
        return all.toString();
    }

    static String passive(GossipOverlay g, int n) {
        StringJoiner all = new StringJoiner(" ");
        for (int i = 0; g.passiveAt(n, i) != -1; i++) {
            all.add(Integer.toString(g.passiveAt(n, i)));
        }
        return all.toString();
    }

    static String eager(GossipOverlay g, int n) {
        StringJoiner all = new StringJoiner(" ");
        for (int p = 0; p < 16; p++) {
            if (g.isEager(n, p)) {
                all.add(Integer.toString(p));
            }
        }
        return all.toString();
    }

    /** Node n's announcers and timers, as "id:announcerMask/timer" for each id that has either. */
    static String waits(GossipOverlay g, int n) {
        StringJoiner all = new StringJoiner(" ");
        for (int b = 0; b < 16; b++) {
            int state = g.graftState(n, b);
            if (state != 0) {
                all.add(b + ":" + (state & 0xffff) + "/" + (state >> 16));
            }
        }
        return all.toString();
    }

    /** All of one node that can be seen. */
    static String node(GossipOverlay g, int n) {
        return (g.isAlive(n) ? "alive" : "gone") + " A[" + active(g, n) + "] P[" + passive(g, n)
            + "] E[" + eager(g, n) + "] D" + g.delivered(n) + " W[" + waits(g, n) + "]";
    }

    /** All of every node that can be seen. */
    static String nodes(GossipOverlay g) {
        StringJoiner all = new StringJoiner("\n");
        for (int n = 0; n < 16; n++) {
            all.add(n + " " + node(g, n));
        }
        return all.toString();
    }

    /** All that can be seen. */
    static String all(GossipOverlay g) {
        return nodes(g) + "\npool " + g.pending() + " {" + pool(g) + "} lost " + g.lost();
    }

    // ---- Bringing about ----

    static void dropAll(GossipOverlay g) {
        for (int slot = 0; slot < 64; slot++) {
            g.drop(slot);
        }
    }

    /** Node x alone takes the peers into its active view. Pool and D(x) must be empty; the pool is so afterwards. */
    static void see(GossipOverlay g, int x, int... peers) {
        for (int y : peers) {
            g.join(y, x);
            g.deliver(0);
            dropAll(g);
        }
    }

    /** Both nodes take each other into their active views. */
    static void link(GossipOverlay g, int x, int y) {
        see(g, x, y);
        see(g, y, x);
    }

    /** Fills the rest of the pool with JOINs from one node to another. */
    static void fillPool(GossipOverlay g, int from, int to) {
        for (int i = 0; i < 64 && g.pending() < 64; i++) {
            g.join(from, to);
        }
    }

    /** Delivers the lowest used slot. */
    static void deliverNext(GossipOverlay g) {
        for (int slot = 0; slot < 64; slot++) {
            if (g.deliver(slot)) {
                return;
            }
        }
    }

    /** Delivers the lowest used slot again and again until the pool is empty. */
    static void settle(GossipOverlay g) {
        for (int i = 0; i < 10000 && g.pending() > 0; i++) {
            deliverNext(g);
        }
    }
}
