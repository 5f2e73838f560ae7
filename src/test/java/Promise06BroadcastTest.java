/** Promise 6: deliver, the broadcast messages. */
public final class Promise06BroadcastTest {
    public static void main(String[] args) {
        gossipSpreads();
        gossipStopsTheWait();
        gossipMakesTheLinkEager();
        duplicateGossipPrunes();
        secondGraftBringsADuplicate();
        ihave();
        graft();
        prune();
        allNodesGetAll();
        Kit.end();
    }

    private static void gossipSpreads() {
        GossipOverlay g = new GossipOverlay(6, 4, 2, 2);
        Kit.see(g, 0, 1);
        Kit.see(g, 1, 5, 0, 3, 2);
        g.broadcast(0);
        g.deliver(0);
        Kit.due("the pool, in list order without the sender", Kit.pool(g),
            "0:GOSSIP 1>5 1, 1:GOSSIP 1>3 1, 2:GOSSIP 1>2 1");
        Kit.due("node 1", Kit.node(g, 1), "alive A[5 0 3 2] P[] E[0 2 3 5] D1 W[]");
        // Node 5 does not hold the sender, and does not come to hold it.
        g.deliver(0);
        Kit.due("node 5", Kit.node(g, 5), "alive A[] P[] E[] D1 W[]");
        Kit.due("the pool", Kit.pool(g), "1:GOSSIP 1>3 1, 2:GOSSIP 1>2 1");
    }

    /** Node 1 waits for id 0 from node 0 and, if both, from node 2; it holds both. */
    private static GossipOverlay waiting(boolean both) {
        GossipOverlay g = new GossipOverlay(4, 3, 2, 2);
        Kit.see(g, 0, 2);
        g.broadcast(0);
        Kit.settle(g);
        g.join(1, 0);
        g.deliver(0);
        Kit.due("the pool", Kit.pool(g), "0:LINK 0>1 0, 1:IHAVE 0>1 1, 2:FORWARDJOIN 0>2 49");
        g.drop(2);
        Kit.settle(g);
        if (both) {
            g.join(1, 2);
            Kit.settle(g);
        }
        return g;
    }

    private static void gossipStopsTheWait() {
        GossipOverlay g = waiting(true);
        Kit.due("node 1", Kit.node(g, 1), "alive A[0 2] P[] E[0 2] D0 W[0:5/2]");
        g.tick();
        Kit.due("tick()", g.tick(), 1);
        Kit.due("node 1, with one more to ask", Kit.node(g, 1), "alive A[0 2] P[] E[0 2] D0 W[0:4/2]");
        g.deliver(0);
        Kit.due("the pool", Kit.pool(g), "0:GOSSIP 0>1 1");
        g.deliver(0);
        Kit.due("node 1", Kit.node(g, 1), "alive A[0 2] P[] E[0 2] D1 W[]");
        Kit.due("the pool", Kit.pool(g), "0:GOSSIP 1>2 1");
        Kit.due("tick()", g.tick(), 0);
        Kit.due("tick()", g.tick(), 0);
    }

    /** A triangle of which the link between 1 and 2 is lazy on both sides, after id 0. */
    private static GossipOverlay triangle() {
        GossipOverlay g = new GossipOverlay(5, 3, 2, 2);
        Kit.link(g, 0, 1);
        Kit.link(g, 0, 2);
        Kit.link(g, 1, 2);
        g.broadcast(0);
        // Both get the id from 0 before they push it to each other.
        g.deliver(1);
        g.deliver(0);
        Kit.due("the pool", Kit.pool(g), "0:GOSSIP 1>2 1, 1:GOSSIP 2>1 1");
        Kit.settle(g);
        return g;
    }

    private static void gossipMakesTheLinkEager() {
        GossipOverlay g = new GossipOverlay(3, 3, 2, 2);
        Kit.link(g, 0, 1);
        Kit.link(g, 0, 2);
        Kit.link(g, 1, 2);
        g.broadcast(0);
        g.deliver(1);
        g.deliver(0);
        g.deliver(0);
        Kit.due("E(2), 1 pruned by its duplicate", Kit.eager(g, 2), "0");
        Kit.due("the pool", Kit.pool(g), "0:PRUNE 2>1 0, 1:GOSSIP 2>1 1");
        // 1 pushes once more before it hears of that.
        g.broadcast(1);
        Kit.due("the pool", Kit.pool(g), "0:PRUNE 2>1 0, 1:GOSSIP 2>1 1, 2:GOSSIP 1>0 2, 3:GOSSIP 1>2 2");
        g.deliver(3);
        Kit.due("E(2), 1 eager again by its new id", Kit.eager(g, 2), "0 1");
        Kit.due("E(1)", Kit.eager(g, 1), "0 2");
    }

    private static void duplicateGossipPrunes() {
        GossipOverlay g = new GossipOverlay(4, 3, 2, 2);
        Kit.link(g, 0, 1);
        Kit.link(g, 0, 2);
        Kit.link(g, 1, 2);
        g.broadcast(0);
        g.deliver(0);
        Kit.due("the pool", Kit.pool(g), "0:GOSSIP 1>2 1, 1:GOSSIP 0>2 1");
        g.deliver(1);
        Kit.due("the pool", Kit.pool(g), "0:GOSSIP 1>2 1, 1:GOSSIP 2>1 1");
        g.deliver(0);
        Kit.due("node 2, 1 lazy now", Kit.node(g, 2), "alive A[0 1] P[] E[0] D1 W[]");
        Kit.due("the pool", Kit.pool(g), "0:PRUNE 2>1 0, 1:GOSSIP 2>1 1");
        g.deliver(0);
        Kit.due("node 1, 2 lazy now", Kit.node(g, 1), "alive A[0 2] P[] E[0] D1 W[]");
        // The next duplicate finds the link lazy and answers with PRUNE all the same.
        g.deliver(1);
        Kit.due("the pool", Kit.pool(g), "0:PRUNE 1>2 0");
        g.deliver(0);
        Kit.due("node 2", Kit.node(g, 2), "alive A[0 1] P[] E[0] D1 W[]");
        g.broadcast(1);
        Kit.due("the pool", Kit.pool(g), "0:GOSSIP 1>0 2, 1:IHAVE 1>2 2");

        // A duplicate from a node that is not held at all.
        GossipOverlay far = new GossipOverlay(3, 2, 2, 2);
        Kit.see(far, 0, 2);
        Kit.see(far, 1, 0, 2);
        far.broadcast(1);
        far.deliver(0);
        Kit.due("the pool", Kit.pool(far), "0:GOSSIP 0>2 1, 1:GOSSIP 1>2 1");
        far.deliver(0);
        far.deliver(1);
        Kit.due("the pool", Kit.pool(far), "0:PRUNE 2>1 0");
    }

    private static void secondGraftBringsADuplicate() {
        GossipOverlay g = waiting(true);
        g.tick();
        g.tick();
        g.tick();
        Kit.due("tick()", g.tick(), 1);
        Kit.due("the pool", Kit.pool(g), "0:GRAFT 1>0 1, 1:GRAFT 1>2 1");
        g.deliver(0);
        g.deliver(1);
        Kit.due("the pool", Kit.pool(g), "0:GOSSIP 0>1 1, 1:GOSSIP 2>1 1");
        g.deliver(1);
        Kit.due("node 1", Kit.node(g, 1), "alive A[0 2] P[] E[0 2] D1 W[]");
        g.deliver(0);
        Kit.due("node 1, after the duplicate", Kit.node(g, 1), "alive A[0 2] P[] E[2] D1 W[]");
        Kit.due("the pool", Kit.pool(g), "0:PRUNE 1>0 0, 1:GOSSIP 1>0 1");
    }

    private static void ihave() {
        GossipOverlay g = new GossipOverlay(4, 3, 2, 3);
        for (int b = 0; b < 16; b++) {
            g.broadcast(b % 3 == 0 ? 1 : 0);
        }
        g.join(1, 0);
        Kit.settle(g);
        Kit.due("D(0)", g.delivered(0), 0b0110110110110110);
        Kit.due("node 1, waiting for what it lacks", Kit.node(g, 1), "alive A[0] P[] E[0] D" + 0b1001001001001001
            + " W[1:1/3 2:1/3 4:1/3 5:1/3 7:1/3 8:1/3 10:1/3 11:1/3 13:1/3 14:1/3]");

        GossipOverlay running = waiting(false);
        running.tick();
        Kit.due("node 1", Kit.node(running, 1), "alive A[0] P[] E[0] D0 W[0:1/1]");
        running.join(1, 2);
        Kit.settle(running);
        Kit.due("node 1, its timer not started again", Kit.node(running, 1), "alive A[0 2] P[] E[0 2] D0 W[0:5/1]");

        // Announced by a node that is not held: it counts as an announcer all the same.
        GossipOverlay far = new GossipOverlay(3, 2, 2, 2);
        far.broadcast(0);
        far.join(1, 0);
        far.deliver(0);
        far.drop(0);
        far.deliver(1);
        Kit.due("node 1", Kit.node(far, 1), "alive A[] P[] E[] D0 W[0:1/2]");
        Kit.due("the pool", Kit.pool(far), "");
    }

    private static void graft() {
        GossipOverlay g = waiting(false);
        g.tick();
        g.tick();
        Kit.due("the pool", Kit.pool(g), "0:GRAFT 1>0 1");
        String before = Kit.nodes(g);
        g.deliver(0);
        Kit.due("the pool", Kit.pool(g), "0:GOSSIP 0>1 1");
        Kit.due("the nodes", Kit.nodes(g), before);

        // From a node that is not held: the payload, but no eager mark.
        GossipOverlay far = new GossipOverlay(4, 2, 2, 1);
        far.broadcast(0);
        far.join(1, 0);
        Kit.settle(far);
        far.tick();
        Kit.due("the pool", Kit.pool(far), "0:GRAFT 1>0 1");
        far.join(2, 0);
        far.deliver(1);
        far.join(3, 0);
        Kit.due("the pool", Kit.pool(far),
            "0:GRAFT 1>0 1, 1:LINK 0>2 0, 2:IHAVE 0>2 1, 3:FORWARDJOIN 0>1 50, 4:JOIN 3>0 0");
        far.deliver(4);
        Kit.due("A(0), without 1", Kit.active(far, 0), "2 3");
        far.deliver(0);
        Kit.due("E(0)", Kit.eager(far, 0), "2 3");
        Kit.due("message(0)", far.message(0), 9 << 24 | 1 << 16 | 1);

        // A graft makes a lazy link eager.
        GossipOverlay lazy = triangle();
        lazy.broadcast(1);
        Kit.due("the pool", Kit.pool(lazy), "0:GOSSIP 1>0 2, 1:IHAVE 1>2 2");
        lazy.deliver(1);
        lazy.tick();
        lazy.tick();
        Kit.due("the pool", Kit.pool(lazy), "0:GOSSIP 1>0 2, 1:GRAFT 2>1 2");
        Kit.due("E(1)", Kit.eager(lazy, 1), "0");
        lazy.deliver(1);
        Kit.due("E(1)", Kit.eager(lazy, 1), "0 2");
        Kit.due("the pool", Kit.pool(lazy), "0:GOSSIP 1>0 2, 1:GOSSIP 1>2 2");
    }

    private static void prune() {
        GossipOverlay g = new GossipOverlay(4, 3, 2, 2);
        Kit.see(g, 0, 1, 2, 3);
        Kit.see(g, 2, 1, 0);
        g.broadcast(2);
        g.deliver(0);
        g.deliver(1);
        Kit.due("the pool", Kit.pool(g), "0:GOSSIP 0>1 1, 1:GOSSIP 0>3 1");
        g.deliver(0);
        Kit.due("the pool", Kit.pool(g), "0:PRUNE 1>0 0, 1:GOSSIP 0>3 1");
        Kit.due("node 0", Kit.node(g, 0), "alive A[1 2 3] P[] E[1 2 3] D1 W[]");
        g.deliver(0);
        Kit.due("node 0, 1 lazy and still held", Kit.node(g, 0), "alive A[1 2 3] P[] E[2 3] D1 W[]");
        Kit.due("the pool", Kit.pool(g), "1:GOSSIP 0>3 1");
    }

    private static void allNodesGetAll() {
        GossipOverlay g = new GossipOverlay(16, 4, 8, 2);
        for (int n = 1; n < 16; n++) {
            g.join(n, 0);
            Kit.settle(g);
        }
        for (int b = 0; b < 16; b++) {
            g.broadcast(b);
            Kit.settle(g);
        }
        for (int i = 0; i < 40; i++) {
            g.tick();
            Kit.settle(g);
        }
        for (int n = 0; n < 16; n++) {
            Kit.due("delivered(" + n + ")", g.delivered(n), 0xffff);
        }
        Kit.due("lost()", g.lost(), 0);
    }
}
