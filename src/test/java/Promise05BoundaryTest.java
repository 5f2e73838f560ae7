import java.util.function.Supplier;

/** Promise 5, its boundary cases: broadcast. */
public final class Promise05BoundaryTest {
    public static void main(String[] args) {
        notValid();
        notAlive();
        allMade();
        severalAtOnce();
        idsFrom0To15();
        addedToTheOwnSet();
        everyPeerAddressed();
        answersTheIdThoughAllIsLost();
        refusedCallsDoNotCount();
        Kit.end();
    }

    private static void refused(Supplier<GossipOverlay> made, int n) {
        Kit.refused(made, "broadcast(" + n + ")", g -> g.broadcast(n), -1);
    }

    private static void notValid() {
        Kit.says("n is not a valid node;");
        States.refuseNoNode("broadcast", GossipOverlay::broadcast, -1);
    }

    private static void notAlive() {
        Kit.says("n is not alive;");
        States.refuseTheDead("broadcast", GossipOverlay::broadcast, -1);
    }

    private static void allMade() {
        Kit.says("MAX_BROADCASTS broadcasts have already been made.");
        for (int n = 0; n < 16; n++) {
            refused(() -> States.spent(16), n);
        }
        Supplier<GossipOverlay> byOne = () -> {
            GossipOverlay g = new GossipOverlay(2, 2, 2, 2);
            Kit.see(g, 0, 1);
            Kit.see(g, 1, 0);
            for (int b = 0; b < 15; b++) {
                g.broadcast(0);
            }
            Kit.due("the sixteenth broadcast", g.broadcast(0), 15);
            return g;
        };
        refused(byOne, 0);
        refused(byOne, 1);
        refused(byOne, -1);
    }

    private static void severalAtOnce() {
        Kit.says("broadcast(n) is refused, answering -1 and changing nothing, in each of these cases:");
        for (int wrong : Kit.NOT_NODES_OF_16) {
            refused(() -> States.spent(16), wrong);
        }
        refused(() -> States.spent(16), 2);
        refused(() -> States.spent(5), 5);
        refused(() -> States.spent(5), 2);
    }

    private static void idsFrom0To15() {
        Kit.says("Let b be the number of earlier successful broadcasts, so b is in 0..15 "
            + "and ids are handed out 0, 1, 2, ... across all nodes.");
        GossipOverlay across = new GossipOverlay(16, 2, 2, 2);
        GossipOverlay one = new GossipOverlay(16, 2, 2, 2);
        for (int b = 0; b < 16; b++) {
            Kit.due("broadcast(" + (15 - b) + ")", across.broadcast(15 - b), b);
            Kit.due("broadcast(15)", one.broadcast(15), b);
        }
        // A node that is dead by now has used up its ids all the same.
        GossipOverlay dead = new GossipOverlay(3, 2, 2, 2);
        dead.broadcast(0);
        dead.broadcast(0);
        dead.crash(0);
        Kit.due("broadcast(1)", dead.broadcast(1), 2);
    }

    private static void addedToTheOwnSet() {
        Kit.says("b is added to D(n).");
        GossipOverlay g = new GossipOverlay(16, 2, 2, 2);
        for (int b = 0; b < 16; b++) {
            int n = b % 2 == 0 ? 0 : 15;
            int before = g.delivered(n);
            g.broadcast(n);
            Kit.due("delivered(" + n + ")", g.delivered(n), before + (1 << b));
        }
        Kit.due("delivered(1)", g.delivered(1), 0);
    }

    private static void everyPeerAddressed() {
        Kit.says("FORWARD(n,-1,1<<b) runs, so every member of A(n) is addressed.");
        String[] pool = {"", "0:GOSSIP 0>15 1", "0:GOSSIP 0>15 1, 1:GOSSIP 0>14 1",
            "0:GOSSIP 0>15 1, 1:GOSSIP 0>14 1, 2:GOSSIP 0>13 1",
            "0:GOSSIP 0>15 1, 1:GOSSIP 0>14 1, 2:GOSSIP 0>13 1, 3:GOSSIP 0>12 1"};
        for (int peers = 0; peers <= 4; peers++) {
            GossipOverlay g = new GossipOverlay(16, 4, 2, 2);
            for (int i = 0; i < peers; i++) {
                Kit.see(g, 0, 15 - i);
            }
            g.broadcast(0);
            Kit.due("the pool, with " + peers + " peers", Kit.pool(g), pool[peers]);
        }
        GossipOverlay last = new GossipOverlay(16, 4, 2, 2);
        Kit.see(last, 15, 0);
        for (int b = 0; b < 15; b++) {
            last.broadcast(7);
        }
        last.broadcast(15);
        Kit.due("the pool, of the last id", Kit.pool(last), "0:GOSSIP 15>0 32768");
    }

    private static void answersTheIdThoughAllIsLost() {
        Kit.says("The call answers b.");
        GossipOverlay g = new GossipOverlay(8, 4, 2, 2);
        Kit.see(g, 0, 1, 2, 3, 4);
        Kit.fillPool(g, 5, 6);
        String pool = Kit.pool(g);
        Kit.due("broadcast(0) with a full pool", g.broadcast(0), 0);
        Kit.due("lost()", g.lost(), 4);
        Kit.due("delivered(0)", g.delivered(0), 1);
        Kit.due("the pool", Kit.pool(g), pool);
        Kit.due("broadcast(7) without a peer", g.broadcast(7), 1);
        Kit.due("lost()", g.lost(), 4);
        g.drop(63);
        g.drop(0);
        Kit.due("broadcast(0) with two free slots", g.broadcast(0), 2);
        Kit.due("message(0)", g.message(0), 0x09010004);
        Kit.due("message(63)", g.message(63), 0x09020004);
        Kit.due("lost()", g.lost(), 6);
    }

    private static void refusedCallsDoNotCount() {
        Kit.says("Refused calls do not count as broadcasts.");
        GossipOverlay g = new GossipOverlay(4, 2, 2, 2);
        g.crash(3);
        for (int b = 0; b < 16; b++) {
            Kit.due("broadcast(-1)", g.broadcast(-1), -1);
            Kit.due("broadcast(4)", g.broadcast(4), -1);
            Kit.due("broadcast(3) of the dead", g.broadcast(3), -1);
            Kit.due("broadcast(0)", g.broadcast(0), b);
        }
        Kit.due("broadcast(0)", g.broadcast(0), -1);
        Kit.due("delivered(0)", g.delivered(0), 65535);
    }
}
