import java.util.function.Supplier;

/** Promise 6, its boundary cases: deliver itself, whatever the kind of the message. */
public final class Promise06BoundaryTest {
    private static final String REFUSED =
        "deliver(slot) is refused, answering false and changing nothing, if slot is not in 0..63 or the slot is free.";

    public static void main(String[] args) {
        noSlot();
        freeSlot();
        firstAndLastSlot();
        slotIsFreeFirst();
        receiverAndSender();
        everyKindAnswersTrue();
        nothingElseChanges();
        Kit.end();
    }

    private static void refused(Supplier<GossipOverlay> made, int slot) {
        Kit.refused(made, "deliver(" + slot + ")", g -> g.deliver(slot), false);
    }

    private static void noSlot() {
        Kit.says(REFUSED);
        States.refuseNoSlot("deliver", GossipOverlay::deliver, false);
    }

    private static void freeSlot() {
        Kit.says(REFUSED);
        States.refuseFreeSlots("deliver", GossipOverlay::deliver, false);
        // Freed by a delivery, by a drop and by a crash, with used slots around.
        Supplier<GossipOverlay> freed = () -> {
            GossipOverlay g = new GossipOverlay(4, 2, 2, 2);
            Kit.see(g, 1, 0);
            g.join(2, 1);
            g.join(0, 1);
            g.join(0, 2);
            g.join(0, 3);
            g.join(0, 1);
            g.drop(1);
            g.crash(3);
            return g;
        };
        refused(freed, 1);
        refused(freed, 3);
        refused(freed, 63);
    }

    private static void firstAndLastSlot() {
        Kit.says("Otherwise the message is taken out of the slot.");
        GossipOverlay g = new GossipOverlay(3, 2, 2, 2);
        Kit.see(g, 0, 1);
        Kit.fillPool(g, 1, 0);
        // A JOIN of a peer that is held, and the only one: nothing is sent.
        for (int slot : new int[] {63, 0, 62, 1, 31, 32}) {
            Kit.due("deliver(" + slot + ")", g.deliver(slot), true);
            Kit.due("message(" + slot + ")", g.message(slot), -1);
            Kit.due("deliver(" + slot + ") again", g.deliver(slot), false);
        }
        Kit.due("pending()", g.pending(), 58);
    }

    private static void slotIsFreeFirst() {
        Kit.says("The slot becomes free first, so sends made while handling may reuse it.");
        for (int slot : new int[] {0, 20, 63}) {
            GossipOverlay g = new GossipOverlay(4, 2, 2, 2);
            Kit.fillPool(g, 1, 0);
            g.deliver(slot);
            Kit.due("message(" + slot + "), a LINK 0>1", g.message(slot), 0x03010000);
            Kit.due("pending()", g.pending(), 64);
            Kit.due("lost()", g.lost(), 0);
        }
        // A lower slot that is free goes before it.
        GossipOverlay lower = new GossipOverlay(4, 2, 2, 2);
        Kit.fillPool(lower, 1, 0);
        lower.drop(5);
        lower.deliver(20);
        Kit.due("message(5), a LINK 0>1", lower.message(5), 0x03010000);
        Kit.due("message(20)", lower.message(20), -1);
    }

    private static void receiverAndSender() {
        Kit.says("For a message (k, x, y, a), y is the receiver and x is the sender.");
        GossipOverlay g = new GossipOverlay(16, 2, 2, 2);
        g.join(15, 0);
        g.deliver(0);
        Kit.due("A(0), the receiver", Kit.active(g, 0), "15");
        Kit.due("A(15), the sender", Kit.active(g, 15), "");
        Kit.due("the pool, the receiver's answer", Kit.pool(g), "0:LINK 0>15 0");
    }

    private static void everyKindAnswersTrue() {
        Kit.says("The message is then handled at its receiver as defined below, and the call answers true.");
        for (int nodes = 5; nodes <= 16; nodes += 11) {
            int kinds = 0;
            for (int slot = 0; slot < 64; slot++) {
                GossipOverlay g = States.busy(nodes);
                int code = g.message(slot);
                if (code != -1) {
                    kinds |= 1 << (code >> 24);
                    Kit.due("deliver(" + slot + ") of kind " + (code >> 24), g.deliver(slot), true);
                }
            }
            Kit.due("the kinds that were delivered", kinds, 0x1ffe);
        }
    }

    /** What may change at the receiver, by kind: the views, the eager set, the delivered set, the waits. */
    private static final String[] MAY_CHANGE = {
        "", "APE", "APE", "APE", "APE", "APE", "P", "P", "P", "EDW", "W", "E", "E"
    };

    private static void nothingElseChanges() {
        Kit.says("Nothing other than what is listed for the kind changes, apart from the slot being freed.");
        for (int nodes = 5; nodes <= 16; nodes += 11) {
            for (int slot = 0; slot < 64; slot++) {
                GossipOverlay g = States.busy(nodes);
                GossipOverlay before = States.busy(nodes);
                int code = g.message(slot);
                if (code != -1) {
                    g.deliver(slot);
                    compare("after deliver(" + slot + ") of kind " + (code >> 24) + ", ", g, before, slot, code);
                }
            }
        }
    }

    private static void compare(String when, GossipOverlay g, GossipOverlay before, int slot, int code) {
        int receiver = code >> 16 & 15;
        for (int n = 0; n < 16; n++) {
            if (n != receiver) {
                Kit.due(when + "node " + n, Kit.node(g, n), Kit.node(before, n));
            }
        }
        for (int other = 0; other < 64; other++) {
            if (other != slot && before.message(other) != -1) {
                Kit.due(when + "message(" + other + ")", g.message(other), before.message(other));
            }
        }
        String may = MAY_CHANGE[code >> 24];
        same(when, may, "A", Kit.active(g, receiver), Kit.active(before, receiver));
        same(when, may, "P", Kit.passive(g, receiver), Kit.passive(before, receiver));
        same(when, may, "E", Kit.eager(g, receiver), Kit.eager(before, receiver));
        same(when, may, "D", "" + g.delivered(receiver), "" + before.delivered(receiver));
        same(when, may, "W", Kit.waits(g, receiver), Kit.waits(before, receiver));
        Kit.due(when + "isAlive", g.isAlive(receiver), true);
        Kit.due(when + "lost()", g.lost(), before.lost());
        Kit.due(when + "the next broadcast", g.broadcast(0), before.broadcast(0));
    }

    private static void same(String when, String may, String what, String is, String was) {
        if (!may.contains(what)) {
            Kit.due(when + what + " of the receiver", is, was);
        }
    }
}
