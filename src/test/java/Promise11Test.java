/** Promise 11: isEager, delivered and graftState. */
public final class Promise11Test {
    public static void main(String[] args) {
        isEager();
        delivered();
        graftState();
        Kit.end();
    }

    private static void isEager() {
        GossipOverlay g = new GossipOverlay(16, 2, 2, 2);
        Kit.see(g, 0, 1, 15);
        String before = Kit.all(g);
        for (int p = 0; p < 16; p++) {
            Kit.due("isEager(0, " + p + ")", g.isEager(0, p), p == 1 || p == 15);
            Kit.due("isEager(" + p + ", 0)", g.isEager(p, 0), false);
        }
        // A shift by more than 31 wraps in Java: 33 and 47 would fall on 1 and 15.
        for (int p : new int[] {Integer.MIN_VALUE, -31, -17, -1, 16, 31, 32, 33, 47, Integer.MAX_VALUE}) {
            Kit.due("isEager(0, " + p + ")", g.isEager(0, p), false);
            Kit.due("isEager(" + p + ", 1)", g.isEager(p, 1), false);
            Kit.due("isEager(" + p + ", " + p + ")", g.isEager(p, p), false);
        }
        Kit.due("the state", Kit.all(g), before);
        Kit.see(g, 0, 2);
        Kit.due("isEager(0, 1) of a peer put out", g.isEager(0, 1), false);
        g.crash(15);
        Kit.due("isEager(0, 15) of a dead peer", g.isEager(0, 15), false);
        g.crash(0);
        Kit.due("isEager(0, 2) of a dead node", g.isEager(0, 2), false);
    }

    private static void delivered() {
        GossipOverlay g = new GossipOverlay(16, 2, 2, 2);
        Kit.link(g, 0, 15);
        g.broadcast(3);
        g.broadcast(0);
        Kit.due("delivered(0)", g.delivered(0), 2);
        Kit.due("delivered(15) before the push", g.delivered(15), 0);
        Kit.settle(g);
        Kit.due("delivered(15)", g.delivered(15), 2);
        Kit.due("delivered(3)", g.delivered(3), 1);
        String before = Kit.all(g);
        for (int n : Kit.NOT_NODES_OF_16) {
            Kit.due("delivered(" + n + ")", g.delivered(n), 0);
        }
        Kit.due("the state", Kit.all(g), before);
        g.crash(15);
        Kit.due("delivered(15) after its crash", g.delivered(15), 2);
        Kit.due("delivered(2) of 2 nodes", new GossipOverlay(2, 2, 2, 2).delivered(2), 0);
    }

    private static void graftState() {
        GossipOverlay g = new GossipOverlay(16, 2, 2, 8);
        g.broadcast(15);
        for (int b = 1; b < 16; b++) {
            g.broadcast(0);
        }
        g.join(14, 15);
        Kit.settle(g);
        g.join(14, 0);
        Kit.settle(g);
        String before = Kit.all(g);
        Kit.due("graftState(14, 0)", g.graftState(14, 0), 1 << 15 | 8 << 16);
        Kit.due("graftState(14, 15)", g.graftState(14, 15), 1 | 8 << 16);
        Kit.due("graftState(15, 0) of its own id", g.graftState(15, 0), 0);
        for (int b : new int[] {Integer.MIN_VALUE, -16, -1, 16, 17, 32, Integer.MAX_VALUE}) {
            for (int n = 0; n < 16; n++) {
                Kit.due("graftState(" + n + ", " + b + ")", g.graftState(n, b), 0);
            }
        }
        for (int n : Kit.NOT_NODES_OF_16) {
            Kit.due("graftState(" + n + ", 0)", g.graftState(n, 0), 0);
            Kit.due("graftState(" + n + ", 15)", g.graftState(n, 15), 0);
        }
        Kit.due("the state", Kit.all(g), before);
        g.tick();
        Kit.due("graftState(14, 0) after a tick", g.graftState(14, 0), 1 << 15 | 7 << 16);
        g.crash(14);
        Kit.due("graftState(14, 0) after the crash", g.graftState(14, 0), 0);
    }
}
