/** Promise 1, its boundary cases: what the constructor makes of its arguments, and the start. */
public final class Promise01BoundaryTest {
    private static final int MIN = Integer.MIN_VALUE;
    private static final int MAX = Integer.MAX_VALUE;

    public static void main(String[] args) {
        eachOnItsOwn();
        belowAndAbove();
        everyInt();
        nodes();
        activeCap();
        passiveCap();
        timeout();
        eitherCapMayBeTheLarger();
        valuesStay();
        allAlive();
        allSetsEmpty();
        allTimersZero();
        poolEmpty();
        nothingLost();
        noBroadcastMade();
        Kit.end();
    }

    // ---- What the values are, as the other calls show them ----

    private static int nodesOf(GossipOverlay g) {
        int count = 0;
        for (int n = -20; n < 40; n++) {
            count += g.isAlive(n) ? 1 : 0;
        }
        return count;
    }

    private static int activeCapOf(GossipOverlay g) {
        int size = 0;
        Kit.see(g, 0, 1, 2, 3, 4, 5, 6, 7, 8);
        while (size < 20 && g.activeAt(0, size) != -1) {
            size++;
        }
        return size;
    }

    private static int passiveCapOf(GossipOverlay g) {
        int size = 0;
        Kit.see(g, 0, 1, 2, 3, 4, 5, 6, 7, 8, 9, 10, 11, 12, 13, 14, 15);
        while (size < 20 && g.passiveAt(0, size) != -1) {
            size++;
        }
        return size;
    }

    /** Node 1 comes to wait for what node 0 broadcasts. Pool and views of both must be empty. */
    private static int timeoutOf(GossipOverlay g) {
        int b = g.broadcast(0);
        g.join(1, 0);
        Kit.settle(g);
        return g.graftState(1, b) >> 16;
    }

    private static void allFour(int given, int nodes, int activeCap, int passiveCap, int timeout) {
        Kit.due("N of " + given, nodesOf(new GossipOverlay(given, 2, 2, 2)), nodes);
        Kit.due("ACAP of " + given, activeCapOf(new GossipOverlay(16, given, 2, 2)), activeCap);
        Kit.due("PCAP of " + given, passiveCapOf(new GossipOverlay(16, 2, given, 2)), passiveCap);
        Kit.due("TIMEOUT of " + given, timeoutOf(new GossipOverlay(16, 2, 2, given)), timeout);
    }

    private static void eachOnItsOwn() {
        Kit.says("GossipOverlay(nodes, activeCap, passiveCap, timeout) clamps each argument.");
        // One argument out of bounds does not touch the three beside it.
        for (int wrong : new int[] {MIN, MAX}) {
            Kit.due("N", nodesOf(new GossipOverlay(13, wrong, wrong, wrong)), 13);
            Kit.due("ACAP", activeCapOf(new GossipOverlay(13, 3, wrong, wrong)), 3);
            Kit.due("ACAP", activeCapOf(new GossipOverlay(MAX, 3, wrong, wrong)), 3);
            Kit.due("PCAP", passiveCapOf(new GossipOverlay(MAX, wrong, 5, wrong)), 5);
            Kit.due("TIMEOUT", timeoutOf(new GossipOverlay(wrong, wrong, wrong, 6)), 6);
        }
    }

    private static void belowAndAbove() {
        Kit.says("A value below the least allowed becomes the least, "
            + "and a value above the greatest becomes the greatest.");
        allFour(0, 2, 2, 1, 1);
        allFour(-1, 2, 2, 1, 1);
        allFour(-16, 2, 2, 1, 1);
        allFour(17, 16, 4, 8, 8);
        allFour(100, 16, 4, 8, 8);
        // Values that a cut to eight or sixteen bits would turn into allowed ones.
        allFour(256 + 3, 16, 4, 8, 8);
        allFour(65536 + 3, 16, 4, 8, 8);
        allFour(-65536 + 3, 2, 2, 1, 1);
    }

    private static void everyInt() {
        Kit.says("This holds for every int, including Integer.MIN_VALUE and Integer.MAX_VALUE.");
        allFour(MIN, 2, 2, 1, 1);
        allFour(MIN + 1, 2, 2, 1, 1);
        allFour(MIN + 3, 2, 2, 1, 1);
        allFour(MAX, 16, 4, 8, 8);
        allFour(MAX - 1, 16, 4, 8, 8);
        Kit.due("N of all least", nodesOf(new GossipOverlay(MIN, MIN, MIN, MIN)), 2);
        Kit.due("N of all greatest", nodesOf(new GossipOverlay(MAX, MAX, MAX, MAX)), 16);
        Kit.due("TIMEOUT of all least", timeoutOf(new GossipOverlay(MIN, MIN, MIN, MIN)), 1);
        Kit.due("TIMEOUT of all greatest", timeoutOf(new GossipOverlay(MAX, MAX, MAX, MAX)), 8);
        Kit.due("ACAP of all greatest", activeCapOf(new GossipOverlay(MAX, MAX, MAX, MAX)), 4);
        Kit.due("PCAP of all greatest", passiveCapOf(new GossipOverlay(MAX, MAX, MAX, MAX)), 8);
    }

    private static void nodes() {
        Kit.says("nodes gives N in 2..16.");
        for (int given = 0; given <= 18; given++) {
            GossipOverlay g = new GossipOverlay(given, 2, 2, 2);
            Kit.due("N of " + given, nodesOf(g), given < 2 ? 2 : given > 16 ? 16 : given);
        }
    }

    private static void activeCap() {
        Kit.says("activeCap gives ACAP in 2..4.");
        int[] due = {2, 2, 2, 3, 4, 4, 4};
        for (int given = 0; given <= 6; given++) {
            Kit.due("ACAP of " + given, activeCapOf(new GossipOverlay(16, given, 2, 2)), due[given]);
        }
    }

    private static void passiveCap() {
        Kit.says("passiveCap gives PCAP in 1..8.");
        int[] due = {1, 1, 2, 3, 4, 5, 6, 7, 8, 8, 8};
        for (int given = 0; given <= 10; given++) {
            Kit.due("PCAP of " + given, passiveCapOf(new GossipOverlay(16, 2, given, 2)), due[given]);
        }
    }

    private static void timeout() {
        Kit.says("timeout gives TIMEOUT in 1..8.");
        int[] due = {1, 1, 2, 3, 4, 5, 6, 7, 8, 8, 8};
        for (int given = 0; given <= 10; given++) {
            Kit.due("TIMEOUT of " + given, timeoutOf(new GossipOverlay(16, 2, 2, given)), due[given]);
        }
    }

    private static void eitherCapMayBeTheLarger() {
        Kit.says("either cap may be the larger.");
        GossipOverlay active = new GossipOverlay(16, 4, 1, 2);
        Kit.see(active, 0, 1, 2, 3, 4, 5, 6, 7);
        Kit.due("node 0", Kit.node(active, 0), "alive A[4 5 6 7] P[3] E[4 5 6 7] D0 W[]");
        GossipOverlay passive = new GossipOverlay(16, 2, 8, 2);
        Kit.see(passive, 0, 1, 2, 3, 4, 5, 6, 7, 8, 9, 10, 11);
        Kit.due("node 0", Kit.node(passive, 0), "alive A[10 11] P[2 3 4 5 6 7 8 9] E[10 11] D0 W[]");
    }

    private static void valuesStay() {
        Kit.says("These values never change afterwards.");
        GossipOverlay g = new GossipOverlay(13, 3, 5, 4);
        for (int n = 8; n < 13; n++) {
            g.join(n, 8);
            g.join(n, 12);
            Kit.settle(g);
            g.shuffle(n);
            Kit.settle(g);
            g.tick();
        }
        g.crash(12);
        g.crash(11);
        Kit.dropAll(g);
        Kit.due("the pool", Kit.pool(g), "");
        Kit.due("TIMEOUT", timeoutOf(g), 4);
        g.tick();
        Kit.due("the timer after a tick", g.graftState(1, 0) >> 16, 3);
        Kit.see(g, 7, 1, 2, 3, 4, 5, 6, 8, 9, 10);
        Kit.due("A(7), with ACAP", Kit.active(g, 7), "8 9 10");
        Kit.due("P(7), with PCAP", Kit.passive(g, 7), "2 3 4 5 6");
        Kit.due("join(13, 0)", g.join(13, 0), false);
        Kit.due("join(10, 0)", g.join(10, 0), true);
        Kit.due("N but for the two dead", nodesOf(g), 11);
    }

    private static void allAlive() {
        Kit.says("every node x < N is alive;");
        for (int nodes = 2; nodes <= 16; nodes++) {
            GossipOverlay g = new GossipOverlay(nodes, 2, 2, 2);
            for (int n = 0; n < 20; n++) {
                Kit.due("isAlive(" + n + ") of " + nodes, g.isAlive(n), n < nodes);
            }
        }
    }

    private static void allSetsEmpty() {
        Kit.says("every A(x), P(x), E(x), D(x) and ANN(x,b) is empty;");
        for (int nodes = 2; nodes <= 16; nodes++) {
            GossipOverlay g = new GossipOverlay(nodes, 4, 8, 8);
            for (int n = 0; n < nodes; n++) {
                for (int i = 0; i < 16; i++) {
                    Kit.due("activeAt(" + n + ", " + i + ")", g.activeAt(n, i), -1);
                    Kit.due("passiveAt(" + n + ", " + i + ")", g.passiveAt(n, i), -1);
                    Kit.due("isEager(" + n + ", " + i + ")", g.isEager(n, i), false);
                    Kit.due("the announcers of " + n + " and " + i, g.graftState(n, i) & 0xffff, 0);
                }
                Kit.due("delivered(" + n + ")", g.delivered(n), 0);
            }
        }
    }

    private static void allTimersZero() {
        Kit.says("every T(x,b) is 0;");
        GossipOverlay g = new GossipOverlay(16, 4, 8, 8);
        for (int n = 0; n < 16; n++) {
            for (int b = 0; b < 16; b++) {
                Kit.due("the timer of " + n + " and " + b, g.graftState(n, b) >> 16, 0);
            }
        }
        Kit.due("tick()", g.tick(), 0);
    }

    private static void poolEmpty() {
        Kit.says("the pool is empty (pending() is 0);");
        GossipOverlay g = new GossipOverlay(16, 4, 8, 8);
        Kit.due("pending()", g.pending(), 0);
        for (int slot = 0; slot < 64; slot++) {
            Kit.due("message(" + slot + ")", g.message(slot), -1);
            Kit.due("deliver(" + slot + ")", g.deliver(slot), false);
        }
    }

    private static void nothingLost() {
        Kit.says("lost is 0;");
        Kit.due("lost() of 2 nodes", new GossipOverlay(2, 2, 1, 1).lost(), 0);
        Kit.due("lost() of 16 nodes", new GossipOverlay(16, 4, 8, 8).lost(), 0);
    }

    private static void noBroadcastMade() {
        Kit.says("no broadcast has been made.");
        GossipOverlay g = new GossipOverlay(16, 4, 8, 8);
        for (int b = 0; b < 16; b++) {
            Kit.due("broadcast(" + b + ")", g.broadcast(b), b);
        }
    }
}
