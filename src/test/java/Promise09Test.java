/** Promise 9: message and pending. */
public final class Promise09Test {
    public static void main(String[] args) {
        codes();
        wrongSlots();
        counts();
        Kit.end();
    }

    private static void codes() {
        GossipOverlay g = new GossipOverlay(16, 4, 8, 2);
        g.join(15, 14);
        Kit.due("JOIN", g.message(0), 0x01fe0000);
        g.deliver(0);
        Kit.due("LINK", g.message(0), 0x03ef0000);
        g.deliver(0);
        g.shuffle(15);
        Kit.due("SHUFFLE", g.message(0), 0x07fe8000);
        g.deliver(0);
        Kit.due("SHUFFLEREPLY", g.message(0), 0x08ef0000);
        g.deliver(0);
        g.join(1, 14);
        g.deliver(0);
        Kit.due("FORWARDJOIN", g.message(1), 0x02ef0031);
        Kit.dropAll(g);
        for (int b = 0; b < 15; b++) {
            g.broadcast(14);
            Kit.settle(g);
        }
        g.broadcast(14);
        Kit.due("GOSSIP of the last id", g.message(0), 0x09ef8000);
        Kit.settle(g);
        g.join(2, 14);
        g.deliver(0);
        Kit.due("IHAVE of all ids", g.message(1), 0x0ae2ffff);
        g.deliver(1);
        g.tick();
        g.tick();
        Kit.dropAll(g);
        Kit.due("pending()", g.pending(), 16);
    }

    private static void wrongSlots() {
        GossipOverlay g = new GossipOverlay(3, 2, 2, 2);
        Kit.fillPool(g, 2, 1);
        for (int slot : Kit.NOT_SLOTS) {
            Kit.due("message(" + slot + ")", g.message(slot), -1);
        }
        for (int slot = 0; slot < 64; slot++) {
            Kit.due("message(" + slot + ")", g.message(slot), 1 << 24 | 2 << 20 | 1 << 16);
            g.drop(slot);
            Kit.due("message(" + slot + ") of the freed slot", g.message(slot), -1);
        }
    }

    private static void counts() {
        GossipOverlay g = new GossipOverlay(3, 2, 2, 2);
        for (int used = 0; used < 64; used++) {
            Kit.due("pending()", g.pending(), used);
            g.join(1, 0);
        }
        Kit.due("pending() of a full pool", g.pending(), 64);
        g.join(1, 0);
        Kit.due("pending() after a lost send", g.pending(), 64);
        g.drop(0);
        g.drop(31);
        g.drop(63);
        Kit.due("pending() after three drops", g.pending(), 61);
        String before = Kit.all(g);
        g.pending();
        g.message(1);
        g.message(0);
        g.message(99);
        Kit.due("the state", Kit.all(g), before);
    }
}
