/** Promise 3: shuffle. */
public final class Promise03Test {
    public static void main(String[] args) {
        sendsWhatTheNodeKnows();
        refuses();
        answersTrueWhenLost();
        Kit.end();
    }

    private static void sendsWhatTheNodeKnows() {
        GossipOverlay g = new GossipOverlay(16, 2, 2, 2);
        Kit.see(g, 3, 15);
        String nodes = Kit.nodes(g);
        Kit.due("shuffle(3) with one peer", g.shuffle(3), true);
        Kit.due("the pool", Kit.pool(g), "0:SHUFFLE 3>15 8");
        Kit.due("the nodes", Kit.nodes(g), nodes);
        Kit.dropAll(g);

        // A(3) becomes 7 2 and P(3) becomes 15 9.
        Kit.see(g, 3, 9, 7, 2);
        Kit.due("A(3)", Kit.active(g, 3), "7 2");
        Kit.due("P(3)", Kit.passive(g, 3), "15 9");
        nodes = Kit.nodes(g);
        Kit.due("shuffle(3) with passive peers", g.shuffle(3), true);
        Kit.due("the pool", Kit.pool(g), "0:SHUFFLE 3>7 " + (1 << 2 | 1 << 15 | 1 << 9 | 1 << 3));
        Kit.due("the nodes", Kit.nodes(g), nodes);
        Kit.due("lost()", g.lost(), 0);
    }

    private static void refuses() {
        GossipOverlay g = new GossipOverlay(16, 2, 2, 2);
        Kit.see(g, 0, 1, 2, 3);
        Kit.link(g, 4, 5);
        g.crash(4);
        String before = Kit.all(g);
        for (int n : Kit.NOT_NODES_OF_16) {
            Kit.due("shuffle(" + n + ")", g.shuffle(n), false);
        }
        Kit.due("shuffle(4) of a dead node", g.shuffle(4), false);
        Kit.due("shuffle(10) with an empty active view", g.shuffle(10), false);
        Kit.due("the state", Kit.all(g), before);

        GossipOverlay cut = new GossipOverlay(5, 2, 2, 2);
        Kit.see(cut, 0, 1);
        // Node 1 holds 0 and 4 in the end; for 2 it puts 0 out and tells it.
        Kit.see(cut, 1, 3, 0, 4);
        cut.join(2, 1);
        cut.deliver(0);
        Kit.due("the pool", Kit.pool(cut), "0:DISCONNECT 1>0 0, 1:LINK 1>2 0, 2:FORWARDJOIN 1>4 50");
        cut.deliver(0);
        Kit.due("node 0", Kit.node(cut, 0), "alive A[] P[1] E[] D0 W[]");
        before = Kit.all(cut);
        Kit.due("shuffle(0) with passive peers alone", cut.shuffle(0), false);
        Kit.due("the state", Kit.all(cut), before);

        GossipOverlay small = new GossipOverlay(3, 2, 2, 2);
        Kit.due("shuffle(3) of 3 nodes", small.shuffle(3), false);
    }

    private static void answersTrueWhenLost() {
        GossipOverlay g = new GossipOverlay(3, 2, 2, 2);
        Kit.see(g, 0, 1);
        Kit.fillPool(g, 1, 2);
        String nodes = Kit.nodes(g);
        String pool = Kit.pool(g);
        Kit.due("shuffle(0) with a full pool", g.shuffle(0), true);
        Kit.due("lost()", g.lost(), 1);
        Kit.due("shuffle(1) with a full pool and no peer", g.shuffle(1), false);
        Kit.due("lost() after a refused call", g.lost(), 1);
        Kit.due("the nodes", Kit.nodes(g), nodes);
        Kit.due("the pool", Kit.pool(g), pool);
    }
}
