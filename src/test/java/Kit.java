import java.util.StringJoiner;
import java.util.function.Function;
import java.util.function.Supplier;

/** What the tests share: the check itself, ways to show an object's state, ways to bring one about. */
final class Kit {
    private static final String[] KINDS = {
        "?", "JOIN", "FORWARDJOIN", "LINK", "DISCONNECT", "NEIGHBOR", "REJECT",
        "SHUFFLE", "SHUFFLEREPLY", "GOSSIP", "IHAVE", "GRAFT", "PRUNE"
    };
    static final int[] NOT_NODES_OF_16 = {Integer.MIN_VALUE, -17, -1, 16, 17, 32, Integer.MAX_VALUE};
    static final int[] NOT_SLOTS = {Integer.MIN_VALUE, -64, -1, 64, 65, 128, Integer.MAX_VALUE};

    private static int wrong = 0;
    private static String sentence = "";

    private Kit() {
    }

    /** The words of the document that the checks from here on are about; a wrong answer is told with them. */
    static void says(String words) {
        sentence = "[" + words + "] ";
    }

    static void due(String what, String got, String want) {
        if (!got.equals(want)) {
            wrong++;
            // A class that is badly broken would fill the log; the count at the end tells of the rest.
            if (wrong <= 50) {
                System.out.println(sentence + what + " answered " + got + ", due is " + want);
            }
        }
    }

    static void due(String what, long got, long want) {
        due(what, Long.toString(got), Long.toString(want));
    }

    static void due(String what, boolean got, boolean want) {
        due(what, Boolean.toString(got), Boolean.toString(want));
    }

    /** The call must be refused: it answers what is due and changes nothing. */
    static void refused(Supplier<GossipOverlay> made, String what, Function<GossipOverlay, Object> call, Object want) {
        due(what, String.valueOf(call.apply(made.get())), String.valueOf(want));
        changesNothing(made, what, call);
    }

    /**
     * The other calls answer after the call as before it, and a run of calls after it answers as it does on
     * an object that never had the call.
     */
    static void changesNothing(Supplier<GossipOverlay> made, String what, Function<GossipOverlay, Object> call) {
        GossipOverlay g = made.get();
        GossipOverlay without = made.get();
        String before = all(g);
        call.apply(g);
        due("after " + what + ", the state", all(g), before);
        due("after " + what + ", a run of calls", future(g), future(without));
    }

    static void end() {
        if (wrong != 0) {
            System.out.println(wrong + " answers are not as due");
            System.exit(1);
        }
    }

    // ---- Showing ----

    /** The pool, as "slot:KIND from>to arg" for each used slot. */
    static String pool(GossipOverlay g) {
        StringJoiner all = new StringJoiner(", ");
        for (int slot = 0; slot < 64; slot++) {
            int code = g.message(slot);
            if (code != -1) {
                all.add(slot + ":" + KINDS[code >> 24] + " " + (code >> 20 & 15) + ">" + (code >> 16 & 15)
                    + " " + (code & 0xffff));
            }
        }
        return all.toString();
    }

    static String active(GossipOverlay g, int n) {
        StringJoiner all = new StringJoiner(" ");
        for (int i = 0; i < 20 && g.activeAt(n, i) != -1; i++) {
            all.add(Integer.toString(g.activeAt(n, i)));
        }
        return all.toString();
    }

    static String passive(GossipOverlay g, int n) {
        StringJoiner all = new StringJoiner(" ");
        for (int i = 0; i < 20 && g.passiveAt(n, i) != -1; i++) {
            all.add(Integer.toString(g.passiveAt(n, i)));
        }
        return all.toString();
    }

    static String eager(GossipOverlay g, int n) {
        StringJoiner all = new StringJoiner(" ");
        for (int p = 0; p < 16; p++) {
            if (g.isEager(n, p)) {
                all.add(Integer.toString(p));
            }
        }
        return all.toString();
    }

    /** Node n's announcers and timers, as "id:announcerMask/timer" for each id that has either. */
    static String waits(GossipOverlay g, int n) {
        StringJoiner all = new StringJoiner(" ");
        for (int b = 0; b < 16; b++) {
            int state = g.graftState(n, b);
            if (state != 0) {
                all.add(b + ":" + (state & 0xffff) + "/" + (state >> 16));
            }
        }
        return all.toString();
    }

    /** All of one node that can be seen. */
    static String node(GossipOverlay g, int n) {
        return (g.isAlive(n) ? "alive" : "gone") + " A[" + active(g, n) + "] P[" + passive(g, n)
            + "] E[" + eager(g, n) + "] D" + g.delivered(n) + " W[" + waits(g, n) + "]";
    }

    /** All of every node that can be seen. */
    static String nodes(GossipOverlay g) {
        StringJoiner all = new StringJoiner("\n");
        for (int n = 0; n < 16; n++) {
            all.add(n + " " + node(g, n));
        }
        return all.toString();
    }

    /** All that can be seen. */
    static String all(GossipOverlay g) {
        return nodes(g) + "\npool " + g.pending() + " {" + pool(g) + "} lost " + g.lost();
    }

    /** What a fixed run of calls answers from here on. It tells even what no single call tells. */
    static String future(GossipOverlay g) {
        StringJoiner answers = new StringJoiner(" ");
        int pick = 1;
        for (int i = 0; i < 240; i++) {
            pick = (pick * 75 + 74) % 65537;
            int n = pick % 16;
            switch (i % 6) {
                case 0 -> answers.add("join " + g.join(n, pick / 16 % 16));
                case 1 -> answers.add("broadcast " + g.broadcast(n));
                case 2 -> answers.add("tick " + g.tick());
                case 3 -> answers.add("shuffle " + g.shuffle(n));
                default -> answers.add("deliver " + g.deliver(pick / 16 % 64));
            }
        }
        return answers + "\n" + all(g);
    }

    // ---- Bringing about ----

    static void dropAll(GossipOverlay g) {
        for (int slot = 0; slot < 64; slot++) {
            g.drop(slot);
        }
    }

    /** Node x alone takes the peers into its active view. Pool and D(x) must be empty; the pool is so afterwards. */
    static void see(GossipOverlay g, int x, int... peers) {
        for (int y : peers) {
            g.join(y, x);
            g.deliver(0);
            dropAll(g);
        }
    }

    /** Both nodes take each other into their active views. */
    static void link(GossipOverlay g, int x, int y) {
        see(g, x, y);
        see(g, y, x);
    }

    /**
     * Node y tells x of the nodes and of itself by a SHUFFLE, whose reply is dropped, so that x may take them
     * into its passive view. The views of y must be empty, D(y) and the pool too; the active cap must hold
     * x and the nodes.
     */
    static void tell(GossipOverlay g, int y, int x, int... nodes) {
        see(g, y, x);
        see(g, y, nodes);
        g.shuffle(y);
        g.deliver(0);
        g.drop(0);
    }

    /**
     * The announcer takes in a node that joins it, and of what it then sends the IHAVE alone is delivered. The
     * pool must be empty, and is so afterwards.
     */
    static void announce(GossipOverlay g, int announcer, int to) {
        g.join(to, announcer);
        g.deliver(0);
        dropAll(g);
        settle(g);
    }

    /**
     * Node x, that holds y, comes to hold it lazily: w, whose views are empty, pushes a broadcast to both, and
     * x then pushes it to y, that has it. The pool must be empty, and D(w) too; the pool is empty afterwards.
     */
    static void makeLazy(GossipOverlay g, int w, int x, int y) {
        see(g, w, y, x);
        g.broadcast(w);
        g.deliver(1);
        g.deliver(0);
        settle(g);
    }

    /** Fills the rest of the pool with JOINs from one node to another. */
    static void fillPool(GossipOverlay g, int from, int to) {
        for (int i = 0; i < 64 && g.pending() < 64; i++) {
            g.join(from, to);
        }
    }

    /** Delivers the lowest used slot. */
    static void deliverNext(GossipOverlay g) {
        for (int slot = 0; slot < 64; slot++) {
            if (g.deliver(slot)) {
                return;
            }
        }
    }

    /** Delivers the lowest used slot again and again until the pool is empty. */
    static void settle(GossipOverlay g) {
        for (int i = 0; i < 10000 && g.pending() > 0; i++) {
            deliverNext(g);
        }
    }
}
