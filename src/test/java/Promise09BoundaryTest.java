import java.util.function.Supplier;

/** Promise 9, its boundary cases: message and pending. */
public final class Promise09BoundaryTest {
    public static void main(String[] args) {
        codes();
        noSlotOrFree();
        pendingFrom0To64();
        changeNothing();
        Kit.end();
    }

    private static void codes() {
        Kit.says("message(slot) answers the code of the message in that slot, kind<<24 | from<<20 | to<<16 | arg.");
        GossipOverlay g = new GossipOverlay(16, 2, 2, 2);
        for (int slot = 0; slot < 64; slot++) {
            g.join(slot % 2 == 0 ? 15 : 0, slot % 2 == 0 ? 0 : 15);
        }
        for (int slot = 0; slot < 64; slot++) {
            Kit.due("message(" + slot + ")", g.message(slot), slot % 2 == 0 ? 0x01f00000 : 0x010f0000);
        }
        // The greatest code that comes about: PRUNE is the last kind.
        GossipOverlay prune = new GossipOverlay(16, 2, 2, 2);
        Kit.see(prune, 14, 15);
        Kit.see(prune, 3, 15, 14);
        prune.broadcast(3);
        prune.deliver(1);
        prune.deliver(0);
        prune.deliver(1);
        Kit.due("message(0), a PRUNE 15>14", prune.message(0), 0x0cfe0000);
    }

    private static void noSlotOrFree() {
        Kit.says("It answers -1 if slot is not in 0..63 or the slot is free.");
        States.refuseNoSlot("message", GossipOverlay::message, -1);
        States.refuseFreeSlots("message", GossipOverlay::message, -1);
        GossipOverlay g = new GossipOverlay(4, 2, 2, 2);
        Kit.see(g, 0, 1);
        Kit.fillPool(g, 1, 0);
        g.drop(0);
        g.deliver(63);
        Kit.due("message(0), dropped", g.message(0), -1);
        Kit.due("message(63), delivered", g.message(63), -1);
        Kit.due("message(1), still there", g.message(1), 0x01100000);
        Kit.due("message(62), still there", g.message(62), 0x01100000);
        g.crash(1);
        Kit.due("message(1), gone with the crash", g.message(1), -1);
    }

    private static void pendingFrom0To64() {
        Kit.says("pending() answers the number of used pool slots, a value in 0..64.");
        GossipOverlay g = new GossipOverlay(3, 2, 2, 2);
        for (int used = 0; used < 64; used++) {
            Kit.due("pending()", g.pending(), used);
            g.join(1, 0);
        }
        for (int i = 0; i < 5; i++) {
            Kit.due("pending() of a full pool", g.pending(), 64);
            g.join(2, 0);
        }
        // From both ends, so that what is counted are slots and not the highest of them.
        for (int i = 0; i < 32; i++) {
            g.drop(i);
            Kit.due("pending()", g.pending(), 63 - 2 * i);
            g.drop(63 - i);
            Kit.due("pending()", g.pending(), 62 - 2 * i);
        }
        Kit.due("pending() of an empty pool", g.pending(), 0);
        GossipOverlay crash = States.full(5);
        for (int n = 0; n < 5; n++) {
            crash.crash(n);
        }
        Kit.due("pending() with all dead", crash.pending(), 0);
    }

    private static void changeNothing() {
        Kit.says("Neither call changes anything.");
        for (Supplier<GossipOverlay> made : States.OF_16) {
            Kit.changesNothing(made, "pending() and message of each slot", g -> {
                int sum = g.pending();
                for (int slot = -1; slot <= 64; slot++) {
                    sum += g.message(slot);
                }
                return sum + g.pending();
            });
        }
    }
}
