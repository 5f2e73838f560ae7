/** Promise 1: construction and start. */
public final class Promise01Test {
    private static final int MIN = Integer.MIN_VALUE;
    private static final int MAX = Integer.MAX_VALUE;

    public static void main(String[] args) {
        int[] given = {MIN, -1, 0, 1, 2, 3, 4, 5, 7, 8, 9, 15, 16, 17, MAX};
        for (int v : given) {
            Kit.due("nodes of " + v, nodesOf(v), Math.max(2, Math.min(16, v)));
            Kit.due("active cap of " + v, activeCapOf(v), Math.max(2, Math.min(4, v)));
            Kit.due("passive cap of " + v, passiveCapOf(v), Math.max(1, Math.min(8, v)));
            Kit.due("timeout of " + v, timeoutOf(v), Math.max(1, Math.min(8, v)));
        }
        startIsEmpty(new GossipOverlay(MIN, MIN, MIN, MIN), 2);
        startIsEmpty(new GossipOverlay(5, 3, 3, 3), 5);
        startIsEmpty(new GossipOverlay(MAX, MAX, MAX, MAX), 16);
        objectsAreApart();
        Kit.end();
    }

    private static int nodesOf(int given) {
        GossipOverlay g = new GossipOverlay(given, 3, 3, 3);
        int alive = 0;
        for (int n = 0; n < 40; n++) {
            alive += g.isAlive(n) ? 1 : 0;
        }
        Kit.due("isAlive of the last of " + alive, g.isAlive(alive - 1), true);
        Kit.due("join across " + alive, g.join(alive - 1, 0), true);
        Kit.due("join beyond " + alive, g.join(alive, 0), false);
        return alive;
    }

    private static int activeCapOf(int given) {
        GossipOverlay g = new GossipOverlay(16, given, 3, 3);
        Kit.see(g, 0, 1, 2, 3, 4, 5, 6, 7, 8, 9);
        int size = 0;
        while (size < 20 && g.activeAt(0, size) != -1) {
            size++;
        }
        return size;
    }

    private static int passiveCapOf(int given) {
        GossipOverlay g = new GossipOverlay(16, 2, given, 3);
        Kit.see(g, 0, 1, 2, 3, 4, 5, 6, 7, 8, 9, 10, 11, 12, 13);
        int size = 0;
        while (size < 20 && g.passiveAt(0, size) != -1) {
            size++;
        }
        return size;
    }

    private static int timeoutOf(int given) {
        GossipOverlay g = new GossipOverlay(2, 2, 2, given);
        g.broadcast(0);
        g.join(1, 0);
        Kit.settle(g);
        return g.graftState(1, 0) >> 16;
    }

    private static void startIsEmpty(GossipOverlay g, int nodes) {
        for (int n = 0; n < 16; n++) {
            Kit.due("node " + n + " of " + nodes + " at the start", Kit.node(g, n),
                (n < nodes ? "alive" : "gone") + " A[] P[] E[] D0 W[]");
        }
        Kit.due("pending() at the start", g.pending(), 0);
        Kit.due("the pool at the start", Kit.pool(g), "");
        Kit.due("lost() at the start", g.lost(), 0);
        Kit.due("tick() at the start", g.tick(), 0);
        Kit.due("the first broadcast", g.broadcast(nodes - 1), 0);
    }

    private static void objectsAreApart() {
        GossipOverlay one = new GossipOverlay(4, 2, 2, 2);
        GossipOverlay other = new GossipOverlay(4, 2, 2, 2);
        String start = Kit.all(other);
        Kit.link(one, 0, 1);
        one.broadcast(0);
        one.crash(2);
        Kit.due("another object's state", Kit.all(other), start);
        Kit.due("another object's first broadcast", other.broadcast(1), 0);
    }
}
