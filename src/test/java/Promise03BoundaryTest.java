import java.util.function.Supplier;

/** Promise 3, its boundary cases: shuffle. */
public final class Promise03BoundaryTest {
    private static final String REFUSED = "shuffle(n) is refused, answering false and changing nothing, "
        + "if n is not a valid node, n is not alive, or A(n) is empty.";

    public static void main(String[] args) {
        notValid();
        notAlive();
        noActivePeer();
        goesToTheFirst();
        masks();
        sendsIntoTheLastSlot();
        answersTrueInAFullPool();
        nothingElseChanges();
        Kit.end();
    }

    private static void refused(Supplier<GossipOverlay> made, int n) {
        Kit.refused(made, "shuffle(" + n + ")", g -> g.shuffle(n), false);
    }

    private static void notValid() {
        Kit.says(REFUSED);
        States.refuseNoNode("shuffle", GossipOverlay::shuffle, false);
    }

    private static void notAlive() {
        Kit.says(REFUSED);
        Supplier<GossipOverlay> dead = () -> {
            GossipOverlay g = new GossipOverlay(16, 2, 2, 2);
            Kit.see(g, 15, 1, 3, 4);
            Kit.see(g, 1, 15, 3, 4);
            g.crash(15);
            return g;
        };
        refused(dead, 15);
        States.refuseTheDead("shuffle", GossipOverlay::shuffle, false);
    }

    private static void noActivePeer() {
        Kit.says(REFUSED);
        refused(States::fresh, 0);
        refused(States::fresh, 15);
        // Node 0 knows 5 and 6, but passively alone, and others hold it.
        Supplier<GossipOverlay> passive = () -> {
            GossipOverlay g = new GossipOverlay(8, 2, 2, 2);
            Kit.tell(g, 5, 0, 6);
            Kit.due("node 0", Kit.node(g, 0), "alive A[] P[5 6] E[] D0 W[]");
            return g;
        };
        refused(passive, 0);
        // Node 0 had a peer, that is dead.
        Supplier<GossipOverlay> left = () -> {
            GossipOverlay g = new GossipOverlay(8, 2, 2, 2);
            Kit.see(g, 0, 1);
            g.crash(1);
            return g;
        };
        refused(left, 0);
        Supplier<GossipOverlay> full = () -> {
            GossipOverlay g = new GossipOverlay(8, 2, 2, 2);
            Kit.fillPool(g, 1, 2);
            return g;
        };
        refused(full, 0);
    }

    private static void goesToTheFirst() {
        Kit.says("Let q be the first of A(n).");
        for (int peers = 1; peers <= 4; peers++) {
            GossipOverlay g = new GossipOverlay(16, 4, 2, 2);
            for (int i = 0; i < peers; i++) {
                Kit.see(g, 3, 15 - i);
            }
            Kit.due("shuffle(3)", g.shuffle(3), true);
            Kit.due("the receiver, of " + peers, g.message(0) >> 16, 0x073f);
        }
    }

    private static void masks() {
        Kit.says("Let m be the mask of the nodes in A(n), the nodes in P(n) and n itself, with bit q cleared.");
        // One active peer and none passive: itself alone.
        GossipOverlay least = new GossipOverlay(16, 2, 2, 2);
        Kit.see(least, 0, 15);
        least.shuffle(0);
        Kit.due("the pool", Kit.pool(least), "0:SHUFFLE 0>15 1");

        // Both views full, with the greatest caps: all but 0, which it goes to, and 1, 2 and 3, which 15 does not know.
        GossipOverlay greatest = new GossipOverlay(16, 4, 8, 2);
        Kit.see(greatest, 15, 14, 13, 12, 11, 10, 9, 8, 7, 0, 6, 5, 4);
        Kit.due("node 15", Kit.node(greatest, 15),
            "alive A[0 6 5 4] P[14 13 12 11 10 9 8 7] E[0 4 5 6] D0 W[]");
        greatest.shuffle(15);
        Kit.due("the pool", Kit.pool(greatest), "0:SHUFFLE 15>0 " + (65535 - 1 - 2 - 4 - 8));

        // A dead passive peer is still told of.
        GossipOverlay dead = new GossipOverlay(8, 2, 2, 2);
        Kit.see(dead, 0, 5, 1, 2);
        dead.crash(5);
        dead.shuffle(0);
        Kit.due("the pool", Kit.pool(dead), "0:SHUFFLE 0>1 " + (1 << 5 | 1 << 2 | 1));
    }

    private static void sendsIntoTheLastSlot() {
        Kit.says("SEND(n,q,SHUFFLE,m).");
        GossipOverlay g = new GossipOverlay(4, 2, 2, 2);
        Kit.see(g, 0, 1);
        for (int i = 0; i < 63; i++) {
            g.join(2, 3);
        }
        g.shuffle(0);
        Kit.due("message(63)", g.message(63), 0x07010001);
        Kit.due("lost()", g.lost(), 0);
    }

    private static void answersTrueInAFullPool() {
        Kit.says("Answer true.");
        GossipOverlay g = new GossipOverlay(4, 2, 2, 2);
        Kit.see(g, 0, 1);
        Kit.due("shuffle(0) into an empty pool", g.shuffle(0), true);
        Kit.fillPool(g, 2, 3);
        Kit.due("shuffle(0) into no slot", g.shuffle(0), true);
        Kit.due("lost()", g.lost(), 1);
        Kit.due("shuffle(0) again", g.shuffle(0), true);
        Kit.due("lost()", g.lost(), 2);
    }

    private static void nothingElseChanges() {
        Kit.says("Views and sets of all nodes stay unchanged; only the pool (or lost) changes.");
        for (int n = 0; n < 16; n++) {
            GossipOverlay g = States.busy(16);
            String nodes = Kit.nodes(g);
            int pending = g.pending();
            boolean shuffled = g.shuffle(n);
            Kit.due("the nodes after a shuffle of " + n, Kit.nodes(g), nodes);
            Kit.due("pending()", g.pending(), pending + (shuffled ? 1 : 0));
            Kit.due("lost()", g.lost(), 0);

            GossipOverlay full = States.full(16);
            String before = Kit.all(full);
            shuffled = full.shuffle(n);
            Kit.due("the state after a lost shuffle of " + n, Kit.all(full),
                shuffled ? before.replace("lost 1", "lost 2") : before);
        }
    }
}
