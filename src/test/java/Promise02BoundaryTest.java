import java.util.function.Supplier;

/** Promise 2, its boundary cases: join. */
public final class Promise02BoundaryTest {
    public static void main(String[] args) {
        notValid();
        itself();
        notAlive();
        severalAtOnce();
        firstAndLastNode();
        fullPool();
        noViewChanges();
        Kit.end();
    }

    private static void refused(Supplier<GossipOverlay> made, int n, int c) {
        Kit.refused(made, "join(" + n + ", " + c + ")", g -> g.join(n, c), false);
    }

    private static void notValid() {
        Kit.says("n or c is not a valid node;");
        for (Supplier<GossipOverlay> made : States.OF_16) {
            for (int wrong : Kit.NOT_NODES_OF_16) {
                refused(made, wrong, 0);
                refused(made, 15, wrong);
                refused(made, wrong, -wrong);
            }
        }
        for (Supplier<GossipOverlay> made : States.OF_5) {
            for (int wrong = 5; wrong <= 16; wrong++) {
                refused(made, wrong, 0);
                refused(made, 4, wrong);
            }
        }
    }

    private static void itself() {
        Kit.says("n == c;");
        for (Supplier<GossipOverlay> made : States.OF_16) {
            for (int n = 0; n < 16; n++) {
                refused(made, n, n);
            }
        }
    }

    private static void notAlive() {
        Kit.says("n or c is not alive.");
        for (Supplier<GossipOverlay> made : States.OF_5) {
            refused(made, 2, 0);
            refused(made, 0, 2);
            refused(made, 2, 2);
        }
        Supplier<GossipOverlay> twoDead = () -> {
            GossipOverlay g = States.busy(16);
            g.crash(15);
            return g;
        };
        refused(twoDead, 2, 15);
        refused(twoDead, 15, 2);
        refused(twoDead, 15, 0);
        refused(twoDead, 0, 15);
    }

    private static void severalAtOnce() {
        Kit.says("join(n, c) is refused, answering false and changing nothing, if any of these holds:");
        for (Supplier<GossipOverlay> made : States.OF_5) {
            refused(made, -1, -1);
            refused(made, 5, 5);
            refused(made, 5, 2);
            refused(made, 2, -1);
            refused(made, 2, 2);
            refused(made, Integer.MIN_VALUE, Integer.MAX_VALUE);
        }
    }

    private static void firstAndLastNode() {
        Kit.says("Otherwise it performs SEND(n,c,JOIN,0) and answers true.");
        GossipOverlay g = new GossipOverlay(16, 2, 2, 2);
        Kit.due("join(0, 15)", g.join(0, 15), true);
        Kit.due("join(15, 0)", g.join(15, 0), true);
        Kit.due("the pool", Kit.pool(g), "0:JOIN 0>15 0, 1:JOIN 15>0 0");
        GossipOverlay two = new GossipOverlay(2, 2, 2, 2);
        Kit.due("join(1, 0) of 2 nodes", two.join(1, 0), true);
        Kit.due("join(1, 0) again", two.join(1, 0), true);
        Kit.due("the pool", Kit.pool(two), "0:JOIN 1>0 0, 1:JOIN 1>0 0");
    }

    private static void fullPool() {
        Kit.says("It answers true even when the send is lost because the pool is full; in that case only lost grows.");
        GossipOverlay g = States.full(16);
        String before = Kit.all(g);
        Kit.due("lost() before", g.lost(), 1);
        Kit.due("join(15, 1)", g.join(15, 1), true);
        Kit.due("the state", Kit.all(g), before.replace("lost 1", "lost 2"));

        GossipOverlay lastSlot = new GossipOverlay(3, 2, 2, 2);
        for (int i = 0; i < 63; i++) {
            lastSlot.join(1, 0);
        }
        Kit.due("join(2, 0) into the last free slot", lastSlot.join(2, 0), true);
        Kit.due("message(63)", lastSlot.message(63), 0x01200000);
        Kit.due("lost()", lastSlot.lost(), 0);
        Kit.due("join(2, 0) into no slot", lastSlot.join(2, 0), true);
        Kit.due("lost()", lastSlot.lost(), 1);
        Kit.due("pending()", lastSlot.pending(), 64);
    }

    private static void noViewChanges() {
        Kit.says("No view or set changes during this call; only the pool (or lost) changes.");
        for (int n = 0; n < 16; n++) {
            GossipOverlay g = States.busy(16);
            String nodes = Kit.nodes(g);
            int lost = g.lost();
            int pending = g.pending();
            boolean joined = g.join(n, n == 9 ? 8 : 9);
            Kit.due("the nodes after a join of " + n, Kit.nodes(g), nodes);
            Kit.due("pending()", g.pending(), pending + (joined ? 1 : 0));
            Kit.due("lost()", g.lost(), lost);
        }
    }
}
