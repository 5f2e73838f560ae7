import java.util.function.Supplier;

/** Promise 7, its boundary cases: drop. */
public final class Promise07BoundaryTest {
    /** The kinds that the caller cannot drop, as a mask. */
    private static final int KEPT = 1 << GossipOverlay.GOSSIP | 1 << GossipOverlay.IHAVE | 1 << GossipOverlay.GRAFT
        | 1 << GossipOverlay.PRUNE;

    public static void main(String[] args) {
        noSlot();
        freeSlot();
        keptKinds();
        refusedIsStillThere();
        everyOtherKind();
        firstAndLastSlot();
        nothingElseChanges();
        Kit.end();
    }

    private static void refused(Supplier<GossipOverlay> made, int slot) {
        Kit.refused(made, "drop(" + slot + ")", g -> g.drop(slot), false);
    }

    private static void noSlot() {
        Kit.says("slot is not in 0..63;");
        States.refuseNoSlot("drop", GossipOverlay::drop, false);
    }

    private static void freeSlot() {
        Kit.says("the slot is free;");
        States.refuseFreeSlots("drop", GossipOverlay::drop, false);
        Supplier<GossipOverlay> dropped = () -> {
            GossipOverlay g = new GossipOverlay(3, 2, 2, 2);
            Kit.fillPool(g, 1, 0);
            g.drop(0);
            g.drop(63);
            return g;
        };
        refused(dropped, 0);
        refused(dropped, 63);
    }

    private static void keptKinds() {
        Kit.says("the message's kind is GOSSIP, IHAVE, GRAFT or PRUNE. The caller cannot drop those kinds.");
        int kinds = 0;
        for (int nodes = 5; nodes <= 16; nodes += 11) {
            int of = nodes;
            for (int slot = 0; slot < 64; slot++) {
                int kind = States.busy(of).message(slot) >> 24;
                if (kind > 0 && (KEPT >> kind & 1) == 1) {
                    kinds |= 1 << kind;
                    refused(() -> States.busy(of), slot);
                    refused(() -> States.full(of), slot);
                }
            }
        }
        Kit.due("the kinds that were tried", kinds, KEPT);
    }

    private static void refusedIsStillThere() {
        Kit.says("drop(slot) is refused, answering false and changing nothing, in each of these cases:");
        for (int slot = 0; slot < 64; slot++) {
            GossipOverlay g = States.busy(16);
            int code = g.message(slot);
            if (code != -1 && !g.drop(slot)) {
                Kit.due("message(" + slot + ") after a refused drop", g.message(slot), code);
                Kit.due("deliver(" + slot + ") after a refused drop", g.deliver(slot), true);
            }
        }
    }

    private static void everyOtherKind() {
        Kit.says("Otherwise the message is discarded, its slot is freed, and the call answers true.");
        int kinds = 0;
        for (int nodes = 5; nodes <= 16; nodes += 11) {
            for (int slot = 0; slot < 64; slot++) {
                GossipOverlay g = States.busy(nodes);
                int kind = g.message(slot) >> 24;
                if (kind > 0 && (KEPT >> kind & 1) == 0) {
                    kinds |= 1 << kind;
                    int pending = g.pending();
                    Kit.due("drop(" + slot + ") of kind " + kind, g.drop(slot), true);
                    Kit.due("message(" + slot + ") after it", g.message(slot), -1);
                    Kit.due("pending() after it", g.pending(), pending - 1);
                    Kit.due("deliver(" + slot + ") after it", g.deliver(slot), false);
                }
            }
        }
        Kit.due("the kinds that were dropped", kinds, 0x1ffe & ~KEPT);
    }

    private static void firstAndLastSlot() {
        Kit.says("Otherwise the message is discarded, its slot is freed, and the call answers true.");
        GossipOverlay g = new GossipOverlay(3, 2, 2, 2);
        Kit.fillPool(g, 1, 0);
        for (int slot : new int[] {63, 0, 62, 1}) {
            Kit.due("drop(" + slot + ")", g.drop(slot), true);
            Kit.due("message(" + slot + ")", g.message(slot), -1);
            Kit.due("drop(" + slot + ") again", g.drop(slot), false);
        }
        g.join(2, 1);
        Kit.due("message(0), reused", g.message(0), 0x01210000);
        Kit.due("pending()", g.pending(), 61);
    }

    private static void nothingElseChanges() {
        Kit.says("No view, set, timer or the lost counter changes.");
        for (int slot = 0; slot < 64; slot++) {
            GossipOverlay g = States.full(16);
            String nodes = Kit.nodes(g);
            String pool = Kit.pool(g);
            int code = g.message(slot);
            if (g.drop(slot)) {
                Kit.due("the nodes after drop(" + slot + ")", Kit.nodes(g), nodes);
                Kit.due("lost()", g.lost(), 1);
                g.join(code >> 20 & 15, code >> 16 & 15);
                Kit.due("the freed slot is the only one", g.message(slot),
                    1 << 24 | (code & 0x00ff0000));
                if (code >> 24 == GossipOverlay.JOIN) {
                    Kit.due("the pool with the same message again", Kit.pool(g), pool);
                }
            }
        }
    }
}
