/** Promise 8: tick. */
public final class Promise08Test {
    public static void main(String[] args) {
        doesNothingWithoutTimers();
        countsDownThenGrafts();
        triesAnnouncersOneByOne();
        goesByNodeThenById();
        countsSendsToDeadNodes();
        countsLostSends();
        makesOnlyHeldAnnouncersEager();
        Kit.end();
    }

    private static void doesNothingWithoutTimers() {
        GossipOverlay g = new GossipOverlay(4, 2, 2, 2);
        Kit.link(g, 0, 1);
        g.broadcast(0);
        String before = Kit.all(g);
        for (int i = 0; i < 20; i++) {
            Kit.due("tick()", g.tick(), 0);
        }
        Kit.due("the state", Kit.all(g), before);
    }

    private static void countsDownThenGrafts() {
        for (int timeout = 1; timeout <= 8; timeout++) {
            GossipOverlay g = new GossipOverlay(2, 2, 2, timeout);
            g.broadcast(0);
            g.join(1, 0);
            Kit.settle(g);
            for (int left = timeout - 1; left > 0; left--) {
                Kit.due("tick() with " + left + " left", g.tick(), 0);
                Kit.due("graftState(1, 0)", g.graftState(1, 0), 1 | left << 16);
                Kit.due("pending()", g.pending(), 0);
            }
            Kit.due("the last tick()", g.tick(), 1);
            Kit.due("graftState(1, 0)", g.graftState(1, 0), 0);
            Kit.due("the pool", Kit.pool(g), "0:GRAFT 1>0 1");
            Kit.due("tick() after it", g.tick(), 0);
            Kit.due("the pool", Kit.pool(g), "0:GRAFT 1>0 1");
            Kit.due("delivered(1)", g.delivered(1), 0);
        }
    }

    private static void triesAnnouncersOneByOne() {
        GossipOverlay g = new GossipOverlay(5, 3, 2, 2);
        Kit.see(g, 4, 3, 1, 2);
        g.broadcast(4);
        Kit.settle(g);
        for (int n : new int[] {3, 1, 2}) {
            g.join(0, n);
            Kit.settle(g);
        }
        Kit.due("node 0", Kit.node(g, 0), "alive A[3 1 2] P[] E[1 2 3] D0 W[0:14/2]");
        int[] left = {12, 8, 0};
        String pool = "";
        for (int p = 1; p <= 3; p++) {
            Kit.due("tick()", g.tick(), 0);
            Kit.due("tick()", g.tick(), 1);
            pool += (p == 1 ? "" : ", ") + (p - 1) + ":GRAFT 0>" + p + " 1";
            Kit.due("the pool, the lowest first", Kit.pool(g), pool);
            Kit.due("graftState(0, 0)", g.graftState(0, 0), left[p - 1] | (left[p - 1] == 0 ? 0 : 2 << 16));
        }
        Kit.due("tick()", g.tick(), 0);
        Kit.due("tick()", g.tick(), 0);
        Kit.due("the pool", Kit.pool(g), pool);
    }

    private static void goesByNodeThenById() {
        GossipOverlay g = new GossipOverlay(5, 4, 2, 1);
        g.broadcast(0);
        g.broadcast(3);
        g.broadcast(0);
        // The later node learns first, and of 0's ids before 3's.
        g.join(4, 0);
        Kit.settle(g);
        g.join(4, 3);
        g.deliver(0);
        g.drop(0);
        Kit.settle(g);
        g.join(1, 0);
        g.deliver(0);
        g.drop(0);
        g.drop(2);
        Kit.settle(g);
        Kit.due("W(1)", Kit.waits(g, 1), "0:1/1 2:1/1");
        Kit.due("W(4)", Kit.waits(g, 4), "0:1/1 1:8/1 2:1/1");
        g.crash(3);
        Kit.due("W(4)", Kit.waits(g, 4), "0:1/1 1:8/1 2:1/1");
        Kit.due("tick()", g.tick(), 5);
        Kit.due("the pool, the dead 3 left out", Kit.pool(g),
            "0:GRAFT 1>0 1, 1:GRAFT 1>0 4, 2:GRAFT 4>0 1, 3:GRAFT 4>0 4");
    }

    private static void countsSendsToDeadNodes() {
        GossipOverlay g = new GossipOverlay(3, 2, 2, 2);
        g.broadcast(0);
        g.join(1, 0);
        Kit.settle(g);
        g.crash(0);
        Kit.due("tick()", g.tick(), 0);
        Kit.due("tick() that asks a dead node", g.tick(), 1);
        Kit.due("node 1", Kit.node(g, 1), "alive A[] P[] E[] D0 W[]");
        Kit.due("the pool", Kit.pool(g), "");
        Kit.due("lost()", g.lost(), 0);
        Kit.due("tick()", g.tick(), 0);
    }

    private static void countsLostSends() {
        GossipOverlay g = new GossipOverlay(3, 2, 2, 1);
        g.broadcast(0);
        g.broadcast(0);
        g.join(1, 0);
        Kit.settle(g);
        Kit.fillPool(g, 2, 0);
        g.drop(7);
        Kit.due("tick() with one free slot", g.tick(), 2);
        Kit.due("message(7)", g.message(7), 11 << 24 | 1 << 20 | 1);
        Kit.due("lost()", g.lost(), 1);
        Kit.due("W(1)", Kit.waits(g, 1), "");

        // A crashed node's timers are gone with it.
        GossipOverlay gone = new GossipOverlay(3, 2, 2, 1);
        gone.broadcast(0);
        gone.join(1, 0);
        Kit.settle(gone);
        gone.crash(1);
        Kit.due("tick() after the waiter's crash", gone.tick(), 0);
    }

    private static void makesOnlyHeldAnnouncersEager() {
        // 1 and 2 hold each other lazily; 2 hears of id 1 from 1 alone.
        GossipOverlay g = new GossipOverlay(4, 3, 2, 1);
        Kit.link(g, 0, 1);
        Kit.link(g, 0, 2);
        Kit.link(g, 1, 2);
        g.broadcast(0);
        g.deliver(1);
        g.deliver(0);
        Kit.settle(g);
        Kit.due("E(2)", Kit.eager(g, 2), "0");
        g.broadcast(1);
        Kit.due("the pool", Kit.pool(g), "0:GOSSIP 1>0 2, 1:IHAVE 1>2 2");
        g.deliver(1);
        String views = Kit.active(g, 2) + "/" + Kit.passive(g, 2) + "/" + g.delivered(2);
        Kit.due("tick()", g.tick(), 1);
        Kit.due("E(2), 1 eager again", Kit.eager(g, 2), "0 1");
        Kit.due("E(1), not yet asked", Kit.eager(g, 1), "0");
        Kit.due("views and deliveries", Kit.active(g, 2) + "/" + Kit.passive(g, 2) + "/" + g.delivered(2), views);

        GossipOverlay far = new GossipOverlay(3, 2, 2, 1);
        far.broadcast(0);
        far.join(1, 0);
        far.deliver(0);
        far.drop(0);
        far.deliver(1);
        Kit.due("tick()", far.tick(), 1);
        Kit.due("the pool", Kit.pool(far), "0:GRAFT 1>0 1");
        Kit.due("node 1, that does not hold 0", Kit.node(far, 1), "alive A[] P[] E[] D0 W[]");
    }
}
