/** Promise 2: join. */
public final class Promise02Test {
    public static void main(String[] args) {
        sendsOneJoin();
        refusesWrongNodes();
        refusesDeadNodes();
        answersTrueWhenLost();
        Kit.end();
    }

    private static void sendsOneJoin() {
        GossipOverlay g = new GossipOverlay(16, 2, 2, 2);
        String nodes = Kit.nodes(g);
        Kit.due("join(1, 0)", g.join(1, 0), true);
        Kit.due("join(0, 15)", g.join(0, 15), true);
        Kit.due("join(15, 14)", g.join(15, 14), true);
        Kit.due("join(1, 0) again", g.join(1, 0), true);
        Kit.due("the pool", Kit.pool(g), "0:JOIN 1>0 0, 1:JOIN 0>15 0, 2:JOIN 15>14 0, 3:JOIN 1>0 0");
        Kit.due("the nodes", Kit.nodes(g), nodes);
        g.drop(1);
        Kit.due("join(3, 4)", g.join(3, 4), true);
        Kit.due("the pool, lowest slot first", Kit.pool(g),
            "0:JOIN 1>0 0, 1:JOIN 3>4 0, 2:JOIN 15>14 0, 3:JOIN 1>0 0");
        Kit.due("lost()", g.lost(), 0);

        GossipOverlay linked = new GossipOverlay(3, 2, 2, 2);
        Kit.link(linked, 0, 1);
        nodes = Kit.nodes(linked);
        Kit.due("join of a node that is in the view", linked.join(1, 0), true);
        Kit.due("the pool", Kit.pool(linked), "0:JOIN 1>0 0");
        Kit.due("the nodes", Kit.nodes(linked), nodes);
    }

    private static void refusesWrongNodes() {
        GossipOverlay g = new GossipOverlay(16, 2, 2, 2);
        String before = Kit.all(g);
        for (int n : Kit.NOT_NODES_OF_16) {
            Kit.due("join(" + n + ", 0)", g.join(n, 0), false);
            Kit.due("join(0, " + n + ")", g.join(0, n), false);
            Kit.due("join(" + n + ", " + n + ")", g.join(n, n), false);
        }
        for (int n = 0; n < 16; n++) {
            Kit.due("join(" + n + ", " + n + ")", g.join(n, n), false);
        }
        Kit.due("the state", Kit.all(g), before);

        GossipOverlay small = new GossipOverlay(3, 2, 2, 2);
        before = Kit.all(small);
        Kit.due("join(3, 0) of 3 nodes", small.join(3, 0), false);
        Kit.due("join(0, 3) of 3 nodes", small.join(0, 3), false);
        Kit.due("the state", Kit.all(small), before);
    }

    private static void refusesDeadNodes() {
        GossipOverlay g = new GossipOverlay(4, 2, 2, 2);
        g.crash(2);
        String before = Kit.all(g);
        Kit.due("join(2, 0)", g.join(2, 0), false);
        Kit.due("join(0, 2)", g.join(0, 2), false);
        Kit.due("join(2, 2)", g.join(2, 2), false);
        Kit.due("the state", Kit.all(g), before);
    }

    private static void answersTrueWhenLost() {
        GossipOverlay g = new GossipOverlay(3, 2, 2, 2);
        Kit.fillPool(g, 1, 0);
        String nodes = Kit.nodes(g);
        String pool = Kit.pool(g);
        Kit.due("pending() of a full pool", g.pending(), 64);
        Kit.due("lost() before", g.lost(), 0);
        Kit.due("join(2, 0) with a full pool", g.join(2, 0), true);
        Kit.due("lost() after", g.lost(), 1);
        Kit.due("join(2, 2) with a full pool", g.join(2, 2), false);
        Kit.due("lost() after a refused call", g.lost(), 1);
        Kit.due("the nodes", Kit.nodes(g), nodes);
        Kit.due("the pool", Kit.pool(g), pool);
    }
}
