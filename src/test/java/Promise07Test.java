/** Promise 7: drop. */
public final class Promise07Test {
    public static void main(String[] args) {
        refusesWrongSlots();
        dropsEveryMembershipKind();
        refusesEveryBroadcastKind();
        worksInAFullPool();
        Kit.end();
    }

    private static void refusesWrongSlots() {
        GossipOverlay g = new GossipOverlay(3, 2, 2, 2);
        g.join(1, 0);
        String before = Kit.all(g);
        for (int slot : Kit.NOT_SLOTS) {
            Kit.due("drop(" + slot + ")", g.drop(slot), false);
        }
        Kit.due("drop(1) of a free slot", g.drop(1), false);
        Kit.due("drop(63) of a free slot", g.drop(63), false);
        Kit.due("the state", Kit.all(g), before);
        Kit.due("drop(0)", g.drop(0), true);
        Kit.due("drop(0) again", g.drop(0), false);
    }

    /** The message in the slot is the only one of the pool, and of the given kind. */
    private static void dropOnly(GossipOverlay g, int slot, int kind) {
        String nodes = Kit.nodes(g);
        int lost = g.lost();
        Kit.due("the kind", g.message(slot) >> 24, kind);
        Kit.due("pending()", g.pending(), 1);
        Kit.due("drop of kind " + kind, g.drop(slot), true);
        Kit.due("the pool", Kit.pool(g), "");
        Kit.due("pending()", g.pending(), 0);
        Kit.due("the nodes", Kit.nodes(g), nodes);
        Kit.due("lost()", g.lost(), lost);
    }

    private static void dropsEveryMembershipKind() {
        GossipOverlay g = new GossipOverlay(6, 2, 2, 2);
        g.join(1, 0);
        dropOnly(g, 0, GossipOverlay.JOIN);
        g.join(1, 0);
        g.deliver(0);
        dropOnly(g, 0, GossipOverlay.LINK);
        Kit.see(g, 0, 2);
        g.join(1, 0);
        g.deliver(0);
        dropOnly(g, 0, GossipOverlay.FORWARDJOIN);
        g.join(3, 0);
        g.deliver(0);
        g.drop(1);
        g.drop(2);
        dropOnly(g, 0, GossipOverlay.DISCONNECT);
        Kit.due("A(0)", Kit.active(g, 0), "2 3");
        Kit.due("P(0)", Kit.passive(g, 0), "1");
        g.shuffle(0);
        dropOnly(g, 0, GossipOverlay.SHUFFLE);
        g.shuffle(0);
        g.deliver(0);
        dropOnly(g, 0, GossipOverlay.SHUFFLEREPLY);
        g.crash(3);
        dropOnly(g, 0, GossipOverlay.NEIGHBOR);
        Kit.due("P(0), its request dropped", Kit.passive(g, 0), "");

        GossipOverlay full = new GossipOverlay(6, 2, 2, 2);
        Kit.see(full, 1, 4, 5);
        Kit.see(full, 0, 1, 2, 3);
        full.crash(3);
        full.deliver(0);
        dropOnly(full, 0, GossipOverlay.REJECT);
    }

    private static void refuse(GossipOverlay g, int slot, int kind) {
        String before = Kit.all(g);
        Kit.due("the kind", g.message(slot) >> 24, kind);
        Kit.due("drop of kind " + kind, g.drop(slot), false);
        Kit.due("the state", Kit.all(g), before);
    }

    private static void refusesEveryBroadcastKind() {
        GossipOverlay g = new GossipOverlay(3, 2, 2, 1);
        Kit.see(g, 0, 1);
        g.broadcast(0);
        refuse(g, 0, GossipOverlay.GOSSIP);
        Kit.settle(g);
        g.join(2, 0);
        g.deliver(0);
        refuse(g, 1, GossipOverlay.IHAVE);
        Kit.dropAll(g);
        g.deliver(1);
        g.tick();
        refuse(g, 0, GossipOverlay.GRAFT);
        Kit.settle(g);

        GossipOverlay twice = new GossipOverlay(3, 2, 2, 1);
        Kit.see(twice, 0, 2);
        Kit.see(twice, 1, 0, 2);
        twice.broadcast(1);
        twice.deliver(0);
        twice.deliver(0);
        twice.deliver(1);
        refuse(twice, 0, GossipOverlay.PRUNE);
    }

    private static void worksInAFullPool() {
        GossipOverlay g = new GossipOverlay(3, 2, 2, 2);
        Kit.fillPool(g, 1, 0);
        g.join(2, 0);
        Kit.due("lost()", g.lost(), 1);
        Kit.due("drop(63)", g.drop(63), true);
        Kit.due("pending()", g.pending(), 63);
        Kit.due("message(63)", g.message(63), -1);
        g.join(2, 0);
        Kit.due("message(63)", g.message(63), 1 << 24 | 2 << 20);
        Kit.due("lost()", g.lost(), 1);
    }
}
