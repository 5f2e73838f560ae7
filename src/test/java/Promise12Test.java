/** Promise 12: lost and isAlive. */
public final class Promise12Test {
    public static void main(String[] args) {
        lost();
        isAlive();
        Kit.end();
    }

    private static void lost() {
        GossipOverlay g = new GossipOverlay(4, 2, 2, 2);
        Kit.see(g, 0, 1, 2);
        Kit.fillPool(g, 1, 2);
        Kit.due("lost() of a pool just full", g.lost(), 0);
        for (int i = 1; i <= 100; i++) {
            g.join(1, 2);
            Kit.due("lost()", g.lost(), i);
        }
        g.broadcast(0);
        Kit.due("lost() after a broadcast to two", g.lost(), 102);
        g.shuffle(0);
        Kit.due("lost() after a shuffle", g.lost(), 103);
        String before = Kit.all(g);
        g.lost();
        Kit.due("the state", Kit.all(g), before);

        // What goes to a dead node is not lost, nor what a drop or a crash takes away.
        g.drop(0);
        g.drop(1);
        g.join(1, 2);
        g.join(1, 2);
        Kit.due("lost() after drops and sends that fit", g.lost(), 103);
        g.crash(1);
        Kit.due("lost() after a crash", g.lost(), 103);
        Kit.due("pending()", g.pending(), 0);

        GossipOverlay dead = new GossipOverlay(4, 2, 2, 1);
        dead.broadcast(0);
        dead.join(1, 0);
        Kit.settle(dead);
        dead.crash(0);
        Kit.fillPool(dead, 2, 3);
        Kit.due("tick() that asks a dead node", dead.tick(), 1);
        Kit.due("lost() after a send to a dead node with a full pool", dead.lost(), 0);
    }

    private static void isAlive() {
        GossipOverlay g = new GossipOverlay(16, 2, 2, 2);
        for (int n : Kit.NOT_NODES_OF_16) {
            Kit.due("isAlive(" + n + ")", g.isAlive(n), false);
        }
        for (int n = 0; n < 16; n++) {
            Kit.due("isAlive(" + n + ")", g.isAlive(n), true);
        }
        g.crash(0);
        g.crash(15);
        String before = Kit.all(g);
        for (int n = 0; n < 16; n++) {
            Kit.due("isAlive(" + n + ") after two crashes", g.isAlive(n), n != 0 && n != 15);
        }
        Kit.due("the state", Kit.all(g), before);
        g.join(0, 1);
        g.join(1, 0);
        g.broadcast(0);
        Kit.settle(g);
        Kit.due("isAlive(0), for good", g.isAlive(0), false);
        GossipOverlay small = new GossipOverlay(2, 2, 2, 2);
        Kit.due("isAlive(1) of 2 nodes", small.isAlive(1), true);
        Kit.due("isAlive(2) of 2 nodes", small.isAlive(2), false);
        Kit.due("isAlive(15) of 2 nodes", small.isAlive(15), false);
    }
}
