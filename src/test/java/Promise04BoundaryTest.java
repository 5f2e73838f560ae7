import java.util.function.Supplier;

/** Promise 4, its boundary cases: crash. */
public final class Promise04BoundaryTest {
    private static final String REFUSED =
        "crash(n) is refused, answering false and changing nothing, if n is not a valid node or n is not alive.";

    public static void main(String[] args) {
        notValid();
        notAlive();
        becomesDead();
        everyNodeMayCrash();
        isEmptied();
        keepsItsDeliveries();
        itsMessagesGo();
        messagesThatNameItStay();
        peersRepairInOrder();
        noRepairWithoutTheLink();
        noActiveViewGrows();
        repairAfterTheSlotsAreFree();
        repairIntoAFullPool();
        passiveEntriesStay();
        announcersAndTimersStay();
        neverRevives();
        Kit.end();
    }

    private static void notValid() {
        Kit.says(REFUSED);
        States.refuseNoNode("crash", GossipOverlay::crash, false);
    }

    private static void notAlive() {
        Kit.says(REFUSED);
        States.refuseTheDead("crash", GossipOverlay::crash, false);
        // A dead node's number may still be the first entry of a passive view: no second repair comes of it.
        Supplier<GossipOverlay> listed = () -> {
            GossipOverlay g = new GossipOverlay(8, 2, 2, 2);
            Kit.see(g, 0, 1, 2, 3);
            g.crash(1);
            return g;
        };
        Kit.refused(listed, "crash(1)", g -> g.crash(1), false);
    }

    private static void becomesDead() {
        Kit.says("n becomes not alive.");
        for (int n = 0; n < 16; n++) {
            GossipOverlay g = new GossipOverlay(16, 2, 2, 2);
            Kit.due("crash(" + n + ")", g.crash(n), true);
            for (int other = 0; other < 16; other++) {
                Kit.due("isAlive(" + other + ") after it", g.isAlive(other), other != n);
            }
        }
    }

    private static void everyNodeMayCrash() {
        Kit.says("The call answers true.");
        GossipOverlay g = States.full(16);
        for (int n = 0; n < 16; n++) {
            if (n != 2) {
                Kit.due("crash(" + n + ")", g.crash(n), true);
            }
        }
        Kit.due("pending() with all dead", g.pending(), 0);
        String before = Kit.all(g);
        for (int n = 0; n < 16; n++) {
            Kit.due("join", g.join(n, 15 - n), false);
            Kit.due("shuffle", g.shuffle(n), false);
            Kit.due("crash", g.crash(n), false);
            Kit.due("broadcast", g.broadcast(n), -1);
        }
        Kit.due("tick()", g.tick(), 0);
        Kit.due("the state", Kit.all(g), before);
    }

    /** Node 7 has all that a node can have: both views full, id 0 delivered, and a wait for each other id. */
    private static GossipOverlay rich() {
        GossipOverlay g = new GossipOverlay(16, 2, 2, 8);
        Kit.see(g, 7, 1, 2, 3);
        g.broadcast(7);
        Kit.settle(g);
        for (int b = 1; b < 16; b++) {
            g.broadcast(0);
        }
        g.join(7, 0);
        Kit.settle(g);
        Kit.due("node 7", Kit.node(g, 7), "alive A[3 0] P[1 2] E[0 3] D1 W[1:1/8 2:1/8 3:1/8 4:1/8 5:1/8 6:1/8 "
            + "7:1/8 8:1/8 9:1/8 10:1/8 11:1/8 12:1/8 13:1/8 14:1/8 15:1/8]");
        return g;
    }

    private static void isEmptied() {
        Kit.says("A(n), P(n), E(n) and every ANN(n,b) are emptied, and every T(n,b) becomes 0.");
        GossipOverlay g = rich();
        g.crash(7);
        Kit.due("activeAt(7, 0)", g.activeAt(7, 0), -1);
        Kit.due("passiveAt(7, 0)", g.passiveAt(7, 0), -1);
        for (int i = 0; i < 16; i++) {
            Kit.due("isEager(7, " + i + ")", g.isEager(7, i), false);
            Kit.due("graftState(7, " + i + ")", g.graftState(7, i), 0);
        }
        for (int i = 0; i < 10; i++) {
            g.tick();
            Kit.due("the pool, without a GRAFT of the dead", Kit.pool(g), "");
        }
        GossipOverlay bare = new GossipOverlay(2, 2, 2, 2);
        bare.crash(1);
        Kit.due("node 1, that had nothing", Kit.node(bare, 1), "gone A[] P[] E[] D0 W[]");
    }

    private static void keepsItsDeliveries() {
        Kit.says("D(n) is kept.");
        GossipOverlay g = rich();
        g.crash(7);
        Kit.due("delivered(7)", g.delivered(7), 1);
        g.crash(0);
        Kit.due("delivered(0)", g.delivered(0), 65534);
        GossipOverlay all = new GossipOverlay(2, 2, 2, 2);
        for (int b = 0; b < 16; b++) {
            all.broadcast(1);
        }
        all.crash(1);
        Kit.due("delivered(1)", all.delivered(1), 65535);
    }

    private static void itsMessagesGo() {
        Kit.says("Every pool message with from==n or to==n is removed, and its slot becomes free.");
        for (int nodes = 5; nodes <= 16; nodes += 11) {
            int kindsGone = 0;
            for (int n = 0; n < nodes; n++) {
                GossipOverlay g = States.busy(nodes);
                GossipOverlay before = States.busy(nodes);
                g.crash(n);
                for (int slot = 0; slot < 64; slot++) {
                    int was = before.message(slot);
                    int is = g.message(slot);
                    boolean itsOwn = was != -1 && ((was >> 20 & 15) == n || (was >> 16 & 15) == n);
                    if (itsOwn) {
                        kindsGone |= 1 << (was >> 24);
                    }
                    if (was != -1 && !itsOwn) {
                        Kit.due("message(" + slot + ") of others, after crash(" + n + ")", is, was);
                    } else {
                        Kit.due("message(" + slot + ") is free or a new request, after crash(" + n + ")",
                            is == -1 || is >> 24 == GossipOverlay.NEIGHBOR && is != was, true);
                    }
                }
            }
            Kit.due("the kinds that were removed, of " + nodes + " nodes", kindsGone, 0x1ffe);
        }
        // Every slot of the pool, from and to.
        for (int way = 0; way < 2; way++) {
            GossipOverlay full = new GossipOverlay(16, 2, 2, 2);
            Kit.fillPool(full, way == 0 ? 15 : 0, way == 0 ? 0 : 15);
            full.crash(15);
            Kit.due("pending()", full.pending(), 0);
            Kit.due("message(0)", full.message(0), -1);
            Kit.due("message(63)", full.message(63), -1);
            Kit.due("lost()", full.lost(), 0);
        }
    }

    private static void messagesThatNameItStay() {
        Kit.says("Every pool message with from==n or to==n is removed, and its slot becomes free.");
        GossipOverlay g = new GossipOverlay(8, 3, 2, 2);
        Kit.see(g, 0, 1, 4);
        g.join(4, 0);
        g.deliver(0);
        g.shuffle(0);
        Kit.due("the pool", Kit.pool(g), "0:FORWARDJOIN 0>1 52, 1:SHUFFLE 0>1 17");
        g.crash(4);
        Kit.due("the pool, that names 4 in args alone", Kit.pool(g), "0:FORWARDJOIN 0>1 52, 1:SHUFFLE 0>1 17");
    }

    private static void peersRepairInOrder() {
        Kit.says("For each alive x, in ascending order: if n is in A(x), n is removed from A(x) and from E(x), "
            + "then REPAIR(x) runs.");
        GossipOverlay g = new GossipOverlay(16, 2, 2, 2);
        Kit.see(g, 15, 1, 2, 7);
        Kit.see(g, 0, 1, 7, 2);
        Kit.see(g, 9, 1, 2, 7);
        g.crash(7);
        Kit.due("the pool", Kit.pool(g), "0:NEIGHBOR 0>1 0, 1:NEIGHBOR 9>1 0, 2:NEIGHBOR 15>1 0");
        Kit.due("node 0", Kit.node(g, 0), "alive A[2] P[] E[2] D0 W[]");
        Kit.due("node 9", Kit.node(g, 9), "alive A[2] P[] E[2] D0 W[]");
        Kit.due("node 15", Kit.node(g, 15), "alive A[2] P[] E[2] D0 W[]");

        // Who held it lazily lets it go and asks another all the same.
        GossipOverlay lazy = new GossipOverlay(8, 2, 2, 2);
        Kit.see(lazy, 0, 5, 1, 4);
        Kit.makeLazy(lazy, 3, 0, 1);
        Kit.due("node 0", Kit.node(lazy, 0), "alive A[1 4] P[5] E[4] D1 W[]");
        lazy.crash(1);
        Kit.due("node 0", Kit.node(lazy, 0), "alive A[4] P[] E[4] D1 W[]");
        Kit.due("the pool", Kit.pool(lazy), "0:NEIGHBOR 0>5 0");
    }

    private static void noRepairWithoutTheLink() {
        Kit.says("if n is in A(x), n is removed from A(x) and from E(x), then REPAIR(x) runs.");
        // Node 0 has room and passive peers, yet the crash of one that it does not hold is none of its business.
        GossipOverlay g = new GossipOverlay(8, 2, 2, 2);
        Kit.tell(g, 5, 0, 6);
        g.crash(7);
        Kit.due("node 0 after the crash of a stranger", Kit.node(g, 0), "alive A[] P[5 6] E[] D0 W[]");
        g.crash(5);
        Kit.due("node 0 after the crash of a passive peer", Kit.node(g, 0), "alive A[] P[5 6] E[] D0 W[]");
        Kit.due("the pool", Kit.pool(g), "");
    }

    private static void noActiveViewGrows() {
        Kit.says("no active view grows during the crash call.");
        for (int n = 0; n < 16; n++) {
            GossipOverlay g = States.busy(16);
            GossipOverlay before = States.busy(16);
            g.crash(n);
            for (int x = 0; x < 16; x++) {
                String held = " " + Kit.active(before, x) + " ";
                for (int i = 0; g.activeAt(x, i) != -1 && i < 4; i++) {
                    boolean old = held.contains(" " + g.activeAt(x, i) + " ");
                    Kit.due("A(" + x + ") holds only what it held before crash(" + n + ")", old, true);
                }
            }
        }
        // The peer that is asked is not yet held, however few are left.
        GossipOverlay g = new GossipOverlay(6, 2, 2, 2);
        Kit.see(g, 0, 1, 2, 3, 4);
        g.crash(3);
        Kit.due("A(0)", Kit.active(g, 0), "4");
        g.crash(4);
        Kit.due("A(0)", Kit.active(g, 0), "");
    }

    private static void repairAfterTheSlotsAreFree() {
        Kit.says("Every pool message with from==n or to==n is removed, and its slot becomes free.");
        GossipOverlay g = new GossipOverlay(6, 2, 2, 2);
        Kit.see(g, 0, 1, 2, 3);
        Kit.fillPool(g, 4, 5);
        g.drop(50);
        g.join(3, 4);
        g.crash(3);
        Kit.due("message(50), a NEIGHBOR 0>1", g.message(50), 0x05010000);
        Kit.due("lost()", g.lost(), 0);
        Kit.due("pending()", g.pending(), 64);
    }

    private static void repairIntoAFullPool() {
        Kit.says("they can still be lost by SEND when the pool is full, and crash still removes them.");
        GossipOverlay g = new GossipOverlay(8, 2, 2, 1);
        Kit.see(g, 0, 1, 2);
        Kit.fillPool(g, 4, 5);
        g.broadcast(0);
        Kit.due("lost(), two GOSSIPs", g.lost(), 2);
        Kit.dropAll(g);
        g.broadcast(0);
        Kit.due("the pool", Kit.pool(g), "0:GOSSIP 0>1 2, 1:GOSSIP 0>2 2");
        Kit.due("drop(0)", g.drop(0), false);
        g.crash(1);
        Kit.due("the pool", Kit.pool(g), "1:GOSSIP 0>2 2");
        g.crash(0);
        Kit.due("the pool", Kit.pool(g), "");
    }

    private static void passiveEntriesStay() {
        Kit.says("Entries of n in other nodes' passive views are not removed by the crash.");
        for (int n = 1; n <= 3; n++) {
            GossipOverlay g = new GossipOverlay(8, 2, 4, 2);
            Kit.see(g, 0, 1, 2, 3, 4, 5);
            Kit.due("P(0)", Kit.passive(g, 0), "1 2 3");
            g.crash(n);
            Kit.due("P(0) after crash(" + n + ")", Kit.passive(g, 0), "1 2 3");
            Kit.due("the pool", Kit.pool(g), "");
        }
    }

    private static void announcersAndTimersStay() {
        Kit.says("Nor are entries of n in other nodes' announcer sets ANN(x,b); "
            + "those sets and their timers T(x,b) are untouched.");
        GossipOverlay g = rich();
        g.tick();
        String waits = Kit.waits(g, 7);
        Kit.due("the wait for id 15", g.graftState(7, 15), 1 | 7 << 16);
        g.crash(0);
        Kit.due("W(7) after the crash of its only announcer", Kit.waits(g, 7), waits);
        Kit.due("A(7)", Kit.active(g, 7), "3");
    }

    private static void neverRevives() {
        Kit.says("A node never revives.");
        GossipOverlay g = States.busy(5);
        Kit.future(g);
        Kit.due("isAlive(2)", g.isAlive(2), false);
        Kit.due("join(0, 2)", g.join(0, 2), false);
        Kit.due("join(2, 0)", g.join(2, 0), false);
        Kit.due("crash(2)", g.crash(2), false);
        // A walk for the dead node, and word of it, bring it into passive views at most.
        GossipOverlay walk = new GossipOverlay(4, 3, 2, 2);
        Kit.see(walk, 0, 1);
        walk.join(3, 0);
        walk.deliver(0);
        walk.crash(3);
        Kit.settle(walk);
        Kit.due("isAlive(3)", walk.isAlive(3), false);
        Kit.due("node 3", Kit.node(walk, 3), "gone A[] P[] E[] D0 W[]");
        Kit.due("A(1)", Kit.active(walk, 1), "");
    }
}
