/** Promise 4: crash. */
public final class Promise04Test {
    public static void main(String[] args) {
        refuses();
        repairsFromTheFrontOfThePassiveView();
        repairsInAscendingOrder();
        removesItsMessages();
        emptiesTheNodeButKeepsItsDeliveries();
        leavesAnnouncersAndTimersOfOthers();
        losesTheRequestWhenThePoolIsFull();
        Kit.end();
    }

    private static void refuses() {
        GossipOverlay g = new GossipOverlay(16, 2, 2, 2);
        Kit.link(g, 0, 1);
        g.join(2, 0);
        String before = Kit.all(g);
        for (int n : Kit.NOT_NODES_OF_16) {
            Kit.due("crash(" + n + ")", g.crash(n), false);
        }
        Kit.due("the state", Kit.all(g), before);
        Kit.due("crash(5)", g.crash(5), true);
        before = Kit.all(g);
        Kit.due("crash(5) again", g.crash(5), false);
        Kit.due("the state", Kit.all(g), before);
        Kit.due("isAlive(5)", g.isAlive(5), false);
        Kit.due("crash(3) of 3 nodes", new GossipOverlay(3, 2, 2, 2).crash(3), false);
    }

    private static void repairsFromTheFrontOfThePassiveView() {
        GossipOverlay g = new GossipOverlay(6, 2, 8, 2);
        Kit.see(g, 0, 1, 2, 3, 4, 5);
        Kit.due("node 0", Kit.node(g, 0), "alive A[4 5] P[1 2 3] E[4 5] D0 W[]");
        Kit.due("crash(1) of a passive peer", g.crash(1), true);
        Kit.due("node 0", Kit.node(g, 0), "alive A[4 5] P[1 2 3] E[4 5] D0 W[]");
        Kit.due("the pool", Kit.pool(g), "");
        Kit.due("crash(4) of the first active peer", g.crash(4), true);
        Kit.due("node 0, past the dead 1", Kit.node(g, 0), "alive A[5] P[3] E[5] D0 W[]");
        Kit.due("the pool", Kit.pool(g), "0:NEIGHBOR 0>2 0");
        Kit.due("crash(5) of the last active peer", g.crash(5), true);
        Kit.due("node 0, alone", Kit.node(g, 0), "alive A[] P[] E[] D0 W[]");
        Kit.due("the pool", Kit.pool(g), "0:NEIGHBOR 0>2 0, 1:NEIGHBOR 0>3 1");
        Kit.due("lost()", g.lost(), 0);

        GossipOverlay none = new GossipOverlay(16, 2, 8, 2);
        Kit.see(none, 0, 1, 2, 3, 4, 5, 6, 7, 8, 9, 10);
        Kit.due("P(0)", Kit.passive(none, 0), "1 2 3 4 5 6 7 8");
        for (int n = 1; n <= 8; n++) {
            none.crash(n);
        }
        Kit.due("P(0), all dead", Kit.passive(none, 0), "1 2 3 4 5 6 7 8");
        none.crash(10);
        Kit.due("node 0, none left to ask", Kit.node(none, 0), "alive A[9] P[] E[9] D0 W[]");
        Kit.due("the pool", Kit.pool(none), "");
    }

    private static void repairsInAscendingOrder() {
        GossipOverlay g = new GossipOverlay(8, 2, 2, 2);
        Kit.see(g, 6, 1, 2, 7);
        Kit.see(g, 0, 1, 2, 7);
        Kit.see(g, 3, 4, 5, 6);
        Kit.see(g, 2, 4, 7, 5);
        g.crash(7);
        Kit.due("the pool", Kit.pool(g), "0:NEIGHBOR 0>1 0, 1:NEIGHBOR 2>4 0, 2:NEIGHBOR 6>1 0");
        Kit.due("A(0)", Kit.active(g, 0), "2");
        Kit.due("A(2)", Kit.active(g, 2), "5");
        Kit.due("A(6)", Kit.active(g, 6), "2");
        Kit.due("node 3, that did not hold 7", Kit.node(g, 3), "alive A[5 6] P[4] E[5 6] D0 W[]");
    }

    private static void removesItsMessages() {
        GossipOverlay g = new GossipOverlay(5, 2, 2, 2);
        Kit.see(g, 0, 1, 2, 3);
        Kit.due("node 0", Kit.node(g, 0), "alive A[2 3] P[1] E[2 3] D0 W[]");
        g.join(2, 1);
        g.join(1, 2);
        g.join(4, 1);
        g.join(3, 4);
        g.join(2, 4);
        g.broadcast(0);
        Kit.due("the pool", Kit.pool(g), "0:JOIN 2>1 0, 1:JOIN 1>2 0, 2:JOIN 4>1 0, 3:JOIN 3>4 0, "
            + "4:JOIN 2>4 0, 5:GOSSIP 0>2 1, 6:GOSSIP 0>3 1");
        g.crash(2);
        // The slots are freed before the repair, so its request takes the lowest of them.
        Kit.due("the pool", Kit.pool(g), "0:NEIGHBOR 0>1 0, 2:JOIN 4>1 0, 3:JOIN 3>4 0, 6:GOSSIP 0>3 1");
        Kit.due("pending()", g.pending(), 4);

        GossipOverlay full = new GossipOverlay(4, 2, 2, 2);
        Kit.see(full, 0, 1, 2, 3);
        Kit.fillPool(full, 3, 1);
        full.crash(3);
        Kit.due("the pool, full of the dead node's", Kit.pool(full), "0:NEIGHBOR 0>1 0");
        Kit.due("lost()", full.lost(), 0);

        GossipOverlay walk = new GossipOverlay(4, 3, 2, 2);
        Kit.see(walk, 0, 1, 2);
        walk.join(3, 0);
        walk.deliver(0);
        Kit.due("the pool", Kit.pool(walk), "0:LINK 0>3 0, 1:FORWARDJOIN 0>1 51, 2:FORWARDJOIN 0>2 51");
        walk.crash(3);
        Kit.due("the pool, with the walks for the dead node", Kit.pool(walk),
            "1:FORWARDJOIN 0>1 51, 2:FORWARDJOIN 0>2 51");
        walk.deliver(1);
        Kit.due("node 1, that takes in no dead node", Kit.node(walk, 1), "alive A[] P[] E[] D0 W[]");
    }

    private static void emptiesTheNodeButKeepsItsDeliveries() {
        GossipOverlay g = new GossipOverlay(6, 2, 2, 4);
        Kit.see(g, 0, 1, 2, 3);
        g.broadcast(0);
        Kit.settle(g);
        g.broadcast(4);
        g.join(0, 4);
        Kit.settle(g);
        Kit.due("node 0", Kit.node(g, 0), "alive A[3 4] P[1 2] E[3 4] D1 W[1:16/4]");
        g.crash(0);
        Kit.due("node 0, crashed", Kit.node(g, 0), "gone A[] P[] E[] D1 W[]");
        Kit.due("tick() after it", g.tick(), 0);
    }

    private static void leavesAnnouncersAndTimersOfOthers() {
        GossipOverlay g = new GossipOverlay(3, 2, 2, 3);
        g.broadcast(0);
        g.join(1, 0);
        Kit.settle(g);
        g.tick();
        Kit.due("node 1", Kit.node(g, 1), "alive A[0] P[] E[0] D0 W[0:1/2]");
        g.crash(0);
        Kit.due("node 1 after the crash of 0", Kit.node(g, 1), "alive A[] P[] E[] D0 W[0:1/2]");
        Kit.due("the pool", Kit.pool(g), "");
    }

    private static void losesTheRequestWhenThePoolIsFull() {
        GossipOverlay g = new GossipOverlay(7, 2, 2, 2);
        Kit.see(g, 0, 1, 2, 3, 4);
        Kit.fillPool(g, 5, 6);
        Kit.due("node 0", Kit.node(g, 0), "alive A[3 4] P[1 2] E[3 4] D0 W[]");
        String pool = Kit.pool(g);
        g.crash(3);
        Kit.due("node 0, its request lost", Kit.node(g, 0), "alive A[4] P[2] E[4] D0 W[]");
        Kit.due("the pool", Kit.pool(g), pool);
        Kit.due("lost()", g.lost(), 1);
    }
}
