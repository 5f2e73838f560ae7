/** Promise 5: broadcast. */
public final class Promise05Test {
    public static void main(String[] args) {
        handsOutIdsAcrossNodes();
        refusesWithoutCounting();
        addressesTheActiveViewInOrder();
        losesWhatThePoolCannotHold();
        Kit.end();
    }

    private static void handsOutIdsAcrossNodes() {
        GossipOverlay g = new GossipOverlay(4, 2, 2, 2);
        for (int b = 0; b < 16; b++) {
            Kit.due("broadcast " + b, g.broadcast(b % 3), b);
            Kit.due("the bit of " + b, g.delivered(b % 3) >> b, 1);
        }
        Kit.due("delivered(0)", g.delivered(0), 0b1001001001001001);
        Kit.due("delivered(1)", g.delivered(1), 0b0010010010010010);
        Kit.due("delivered(2)", g.delivered(2), 0b0100100100100100);
        Kit.due("delivered(3)", g.delivered(3), 0);
        String before = Kit.all(g);
        for (int n = 0; n < 4; n++) {
            Kit.due("broadcast(" + n + ") after 16", g.broadcast(n), -1);
        }
        Kit.due("the state", Kit.all(g), before);
    }

    private static void refusesWithoutCounting() {
        GossipOverlay g = new GossipOverlay(16, 2, 2, 2);
        Kit.link(g, 0, 1);
        g.crash(2);
        String before = Kit.all(g);
        for (int n : Kit.NOT_NODES_OF_16) {
            Kit.due("broadcast(" + n + ")", g.broadcast(n), -1);
        }
        Kit.due("broadcast(2) of a dead node", g.broadcast(2), -1);
        Kit.due("the state", Kit.all(g), before);
        Kit.due("broadcast(15) after refused ones", g.broadcast(15), 0);
        Kit.due("broadcast(2)", g.broadcast(2), -1);
        Kit.due("broadcast(15)", g.broadcast(15), 1);
        Kit.due("broadcast(3) of 3 nodes", new GossipOverlay(3, 2, 2, 2).broadcast(3), -1);
    }

    private static void addressesTheActiveViewInOrder() {
        GossipOverlay g = new GossipOverlay(5, 4, 2, 2);
        Kit.see(g, 0, 3, 1, 4, 2);
        Kit.due("broadcast(0)", g.broadcast(0), 0);
        Kit.due("the pool", Kit.pool(g), "0:GOSSIP 0>3 1, 1:GOSSIP 0>1 1, 2:GOSSIP 0>4 1, 3:GOSSIP 0>2 1");
        Kit.due("node 0", Kit.node(g, 0), "alive A[3 1 4 2] P[] E[1 2 3 4] D1 W[]");
        Kit.due("node 1, not yet reached", Kit.node(g, 1), "alive A[] P[] E[] D0 W[]");

        GossipOverlay lazy = new GossipOverlay(5, 4, 2, 2);
        Kit.see(lazy, 0, 3, 1, 4, 2);
        Kit.see(lazy, 3, 1, 0);
        // 1 gets the id from 3 and then from 0, so it prunes the link at 0.
        lazy.broadcast(3);
        Kit.settle(lazy);
        Kit.due("E(0)", Kit.eager(lazy, 0), "2 3 4");
        Kit.due("broadcast(0)", lazy.broadcast(0), 1);
        Kit.due("the pool", Kit.pool(lazy), "0:GOSSIP 0>3 2, 1:IHAVE 0>1 2, 2:GOSSIP 0>4 2, 3:GOSSIP 0>2 2");
        Kit.due("D(0)", lazy.delivered(0), 3);
    }

    private static void losesWhatThePoolCannotHold() {
        GossipOverlay g = new GossipOverlay(5, 3, 2, 2);
        Kit.see(g, 0, 1, 2, 3);
        Kit.fillPool(g, 4, 3);
        g.drop(40);
        Kit.due("broadcast(0) with one free slot", g.broadcast(0), 0);
        Kit.due("message(40)", g.message(40), 9 << 24 | 1 << 16 | 1);
        Kit.due("lost()", g.lost(), 2);
        Kit.due("delivered(0)", g.delivered(0), 1);
    }
}
