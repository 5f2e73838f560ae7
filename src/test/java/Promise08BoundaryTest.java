/** Promise 8, its boundary cases: tick. */
public final class Promise08BoundaryTest {
    public static void main(String[] args) {
        oneStepForAll();
        nobodyAlive();
        nodesThenIdsAscending();
        countsDownByOne();
        endsAtZero();
        asksTheLowestFirst();
        makesEagerWhoIsHeld();
        asksForOneId();
        startsAnewWhileOthersAreLeft();
        zeroStaysZero();
        countsEverySend();
        deliveriesAndViewsStay();
        Kit.end();
    }

    /** Node 1 waits for id 0 from those given, which all have it from node 0. */
    private static GossipOverlay waiting(int timeout, int... announcers) {
        GossipOverlay g = new GossipOverlay(16, 4, 2, timeout);
        Kit.see(g, 0, announcers);
        g.broadcast(0);
        Kit.settle(g);
        for (int p : announcers) {
            Kit.announce(g, p, 1);
        }
        Kit.due("the pool", Kit.pool(g), "");
        return g;
    }

    private static void oneStepForAll() {
        Kit.says("tick() performs one time step.");
        // Every node but 0 waits for every id; the dead 9 no more.
        GossipOverlay g = new GossipOverlay(16, 4, 2, 8);
        for (int b = 0; b < 16; b++) {
            g.broadcast(0);
        }
        for (int n = 1; n < 16; n++) {
            Kit.announce(g, 0, n);
        }
        g.crash(9);
        for (int left = 7; left > 0; left--) {
            Kit.due("tick()", g.tick(), 0);
            for (int n = 0; n < 16; n++) {
                for (int b = 0; b < 16; b++) {
                    int due = n == 0 || n == 9 ? 0 : 1 | left << 16;
                    Kit.due("graftState(" + n + ", " + b + ")", g.graftState(n, b), due);
                }
            }
        }
        Kit.due("tick()", g.tick(), 14 * 16);
    }

    private static void nobodyAlive() {
        Kit.says("For each alive node y ascending (outer loop)");
        GossipOverlay fresh = new GossipOverlay(2, 2, 2, 1);
        Kit.due("tick() of a fresh object", fresh.tick(), 0);
        // The waiter dies, then all do.
        GossipOverlay g = waiting(1, 2);
        g.crash(1);
        Kit.due("tick() without the waiter", g.tick(), 0);
        for (int n = 0; n < 16; n++) {
            g.crash(n);
        }
        Kit.due("tick() of the dead", g.tick(), 0);
        Kit.due("pending()", g.pending(), 0);
    }

    private static void nodesThenIdsAscending() {
        Kit.says("for each id b from 0 to 15 (inner loop):");
        GossipOverlay g = new GossipOverlay(16, 4, 2, 1);
        for (int b = 0; b < 16; b++) {
            g.broadcast(7);
        }
        // Node 15 hears of it first, then node 0.
        Kit.announce(g, 7, 15);
        Kit.announce(g, 7, 0);
        Kit.due("tick()", g.tick(), 32);
        for (int b = 0; b < 16; b++) {
            Kit.due("message(" + b + "), of node 0", g.message(b), 0x0b070000 | 1 << b);
            Kit.due("message(" + (16 + b) + "), of node 15", g.message(16 + b), 0x0bf70000 | 1 << b);
        }
    }

    private static void countsDownByOne() {
        Kit.says("If T(y,b) > 0, T(y,b) decreases by 1.");
        GossipOverlay g = waiting(8, 2);
        for (int left = 7; left >= 1; left--) {
            Kit.due("tick()", g.tick(), 0);
            Kit.due("graftState(1, 0)", g.graftState(1, 0), 1 << 2 | left << 16);
            Kit.due("pending()", g.pending(), 0);
        }
    }

    private static void endsAtZero() {
        // An empty ANN(y,b) does not come about here: it is emptied only together with its timer.
        Kit.says("If, after that decrease, it is 0 and ANN(y,b) is not empty:");
        for (int timeout = 1; timeout <= 8; timeout++) {
            GossipOverlay g = waiting(timeout, 2);
            for (int i = 1; i < timeout; i++) {
                Kit.due("tick() " + i + " of " + timeout, g.tick(), 0);
            }
            Kit.due("the last tick() of " + timeout, g.tick(), 1);
            Kit.due("the pool", Kit.pool(g), "0:GRAFT 1>2 1");
            Kit.due("graftState(1, 0)", g.graftState(1, 0), 0);
        }
    }

    private static void asksTheLowestFirst() {
        Kit.says("Let p be the lowest node in ANN(y,b), and remove p from ANN(y,b).");
        GossipOverlay g = waiting(1, 15, 2, 9);
        Kit.due("W(1)", Kit.waits(g, 1), "0:33284/1");
        g.tick();
        Kit.due("the pool", Kit.pool(g), "0:GRAFT 1>2 1");
        Kit.due("W(1)", Kit.waits(g, 1), "0:33280/1");
        g.tick();
        Kit.due("the pool", Kit.pool(g), "0:GRAFT 1>2 1, 1:GRAFT 1>9 1");
        Kit.due("W(1)", Kit.waits(g, 1), "0:32768/1");
        g.tick();
        Kit.due("the pool", Kit.pool(g), "0:GRAFT 1>2 1, 1:GRAFT 1>9 1, 2:GRAFT 1>15 1");
        Kit.due("W(1)", Kit.waits(g, 1), "");
        // Node 0 is the lowest of all.
        GossipOverlay zero = new GossipOverlay(4, 2, 2, 1);
        zero.broadcast(0);
        Kit.announce(zero, 0, 3);
        zero.tick();
        Kit.due("the pool", Kit.pool(zero), "0:GRAFT 3>0 1");
    }

    private static void makesEagerWhoIsHeld() {
        Kit.says("If p is in A(y), p is added to E(y).");
        // Nodes 0 and 1 hold each other lazily, and 1 hears of id 1 from 0.
        GossipOverlay lazy = new GossipOverlay(8, 2, 2, 1);
        Kit.link(lazy, 0, 1);
        Kit.makeLazy(lazy, 3, 0, 1);
        Kit.due("E(0)", Kit.eager(lazy, 0), "");
        Kit.due("E(1)", Kit.eager(lazy, 1), "");
        lazy.broadcast(0);
        lazy.deliver(0);
        Kit.due("W(1)", Kit.waits(lazy, 1), "1:1/1");
        lazy.tick();
        Kit.due("E(1), 0 eager", Kit.eager(lazy, 1), "0");
        Kit.due("E(0), that is not asked yet", Kit.eager(lazy, 0), "");

        // It does not hold the announcer.
        GossipOverlay none = waiting(1, 2);
        Kit.due("A(1)", Kit.active(none, 1), "");
        none.tick();
        Kit.due("node 1", Kit.node(none, 1), "alive A[] P[] E[] D0 W[]");

        // It held the announcer, that is dead.
        GossipOverlay dead = new GossipOverlay(8, 2, 2, 1);
        dead.broadcast(0);
        dead.join(1, 0);
        Kit.settle(dead);
        Kit.due("A(1)", Kit.active(dead, 1), "0");
        dead.crash(0);
        dead.tick();
        Kit.due("node 1", Kit.node(dead, 1), "alive A[] P[] E[] D0 W[]");
    }

    private static void asksForOneId() {
        Kit.says("SEND(y,p,GRAFT,1<<b).");
        GossipOverlay g = new GossipOverlay(4, 2, 2, 1);
        g.broadcast(0);
        for (int b = 1; b < 15; b++) {
            g.broadcast(2);
        }
        g.broadcast(0);
        Kit.announce(g, 0, 1);
        Kit.due("tick()", g.tick(), 2);
        Kit.due("the pool", Kit.pool(g), "0:GRAFT 1>0 1, 1:GRAFT 1>0 32768");
    }

    private static void startsAnewWhileOthersAreLeft() {
        Kit.says("If ANN(y,b) is still not empty, T(y,b) becomes TIMEOUT.");
        for (int timeout = 1; timeout <= 8; timeout++) {
            GossipOverlay g = waiting(timeout, 2, 3);
            for (int i = 0; i < timeout; i++) {
                g.tick();
            }
            Kit.due("W(1), one left", Kit.waits(g, 1), "0:8/" + timeout);
            for (int i = 0; i < timeout; i++) {
                g.tick();
            }
            Kit.due("W(1), none left", Kit.waits(g, 1), "");
        }
    }

    private static void zeroStaysZero() {
        Kit.says("Timers that are already 0 stay 0, and nothing happens for them.");
        GossipOverlay g = waiting(2, 2);
        g.tick();
        g.tick();
        String before = Kit.all(g);
        for (int i = 0; i < 100; i++) {
            Kit.due("tick()", g.tick(), 0);
        }
        Kit.due("the state after 100 ticks", Kit.all(g), before);
    }

    private static void countsEverySend() {
        Kit.says("The call answers the number of GRAFT sends made in this call: the count grows by 1 each time "
            + "step 3 is reached, whatever SEND then does, so sends to nodes that are not alive are counted.");
        GossipOverlay dead = waiting(1, 2, 3);
        dead.crash(2);
        dead.crash(3);
        Kit.due("tick() that asks the dead 2", dead.tick(), 1);
        Kit.due("W(1)", Kit.waits(dead, 1), "0:8/1");
        Kit.due("tick() that asks the dead 3", dead.tick(), 1);
        Kit.due("tick() with nobody left", dead.tick(), 0);
        Kit.due("pending()", dead.pending(), 0);

        GossipOverlay full = waiting(1, 2, 3);
        Kit.fillPool(full, 8, 9);
        Kit.due("tick() into a full pool", full.tick(), 1);
        Kit.due("lost()", full.lost(), 1);
        Kit.due("W(1)", Kit.waits(full, 1), "0:8/1");

        // All nodes but one wait for all ids at once: more GRAFTs than the pool can hold.
        GossipOverlay most = new GossipOverlay(16, 4, 2, 1);
        for (int b = 0; b < 16; b++) {
            most.broadcast(0);
        }
        for (int n = 1; n < 16; n++) {
            Kit.announce(most, 0, n);
        }
        Kit.due("tick()", most.tick(), 240);
        Kit.due("pending()", most.pending(), 64);
        Kit.due("lost()", most.lost(), 176);
        Kit.due("tick() after it", most.tick(), 0);
    }

    private static void deliveriesAndViewsStay() {
        Kit.says("D sets and views do not change.");
        for (int nodes = 5; nodes <= 16; nodes += 11) {
            GossipOverlay g = States.busy(nodes);
            GossipOverlay before = States.busy(nodes);
            int grafts = 0;
            for (int i = 0; i < 12; i++) {
                grafts += g.tick();
                for (int n = 0; n < nodes; n++) {
                    Kit.due("A(" + n + ")", Kit.active(g, n), Kit.active(before, n));
                    Kit.due("P(" + n + ")", Kit.passive(g, n), Kit.passive(before, n));
                    Kit.due("delivered(" + n + ")", g.delivered(n), before.delivered(n));
                }
            }
            Kit.due("a graft was made", grafts > 0, true);
        }
    }
}
