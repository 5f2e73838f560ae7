import java.util.function.Supplier;

/** Promise 10, its boundary cases: activeAt and passiveAt. */
public final class Promise10BoundaryTest {
    private static final int[] NEVER_A_PLACE = {
        Integer.MIN_VALUE, -16, -8, -4, -1, 8, 9, 16, 64, Integer.MAX_VALUE
    };

    public static void main(String[] args) {
        activePlaces();
        passivePlaces();
        activeOfNoNode();
        passiveOfNoNode();
        crashedNode();
        changeNothing();
        Kit.end();
    }

    private static void activePlaces() {
        Kit.says("It answers -1 if n is not a valid node or i is not in 0..|A(n)|-1.");
        for (int cap = 2; cap <= 4; cap++) {
            GossipOverlay g = new GossipOverlay(16, cap, 2, 2);
            // The rows beside are full, so that a slip into them would show.
            Kit.see(g, 6, 1, 2, 3, 4);
            Kit.see(g, 8, 1, 2, 3, 4);
            for (int size = 0; size <= cap; size++) {
                for (int i = 0; i < 8; i++) {
                    Kit.due("activeAt(7, " + i + ") of " + size, g.activeAt(7, i), i < size ? 15 - i : -1);
                }
                for (int i : NEVER_A_PLACE) {
                    Kit.due("activeAt(7, " + i + ")", g.activeAt(7, i), -1);
                }
                if (size < cap) {
                    Kit.see(g, 7, 15 - size);
                }
            }
        }
        // What is left behind in a row that has shrunk is not answered.
        GossipOverlay shrunk = new GossipOverlay(8, 4, 2, 2);
        Kit.see(shrunk, 0, 1, 2, 3, 4);
        shrunk.crash(2);
        Kit.due("activeAt(0, 2)", shrunk.activeAt(0, 2), 4);
        Kit.due("activeAt(0, 3)", shrunk.activeAt(0, 3), -1);
        for (int n = 1; n < 8; n++) {
            shrunk.crash(n);
        }
        Kit.due("activeAt(0, 0) of an empty view", shrunk.activeAt(0, 0), -1);
    }

    private static void passivePlaces() {
        Kit.says("It answers -1 if n is not a valid node or i is not in 0..|P(n)|-1.");
        for (int cap = 1; cap <= 8; cap++) {
            GossipOverlay g = new GossipOverlay(16, 2, cap, 2);
            Kit.see(g, 6, 1, 2, 3, 4, 5, 9, 10, 11, 12, 13);
            Kit.see(g, 8, 1, 2, 3, 4, 5, 9, 10, 11, 12, 13);
            Kit.see(g, 7, 0, 1);
            for (int size = 0; size <= cap; size++) {
                for (int i = 0; i < 12; i++) {
                    Kit.due("passiveAt(7, " + i + ") of " + size, g.passiveAt(7, i),
                        i < size ? (i < 2 ? i : 17 - i) : -1);
                }
                for (int i : NEVER_A_PLACE) {
                    Kit.due("passiveAt(7, " + i + ")", g.passiveAt(7, i), -1);
                }
                if (size < cap) {
                    Kit.see(g, 7, 15 - size);
                }
            }
        }
        GossipOverlay shrunk = new GossipOverlay(8, 2, 4, 2);
        Kit.see(shrunk, 0, 1, 2, 3, 4);
        shrunk.crash(3);
        Kit.due("passiveAt(0, 0)", shrunk.passiveAt(0, 0), 2);
        Kit.due("passiveAt(0, 1)", shrunk.passiveAt(0, 1), -1);
    }

    private static void activeOfNoNode() {
        Kit.says("activeAt(n, i) answers entry i of A(n). It answers -1 if n is not a valid node");
        for (int wrong : Kit.NOT_NODES_OF_16) {
            Kit.refused(() -> States.busy(16), "activeAt(" + wrong + ", 0)", g -> g.activeAt(wrong, 0), -1);
        }
        // Numbers by which a row would be left downwards or upwards, with a place that leads back into one.
        GossipOverlay g = new GossipOverlay(4, 4, 8, 2);
        Kit.see(g, 0, 1, 2, 3);
        Kit.see(g, 3, 0, 1, 2);
        for (int i = -20; i <= 20; i++) {
            Kit.due("activeAt(-1, " + i + ")", g.activeAt(-1, i), -1);
            Kit.due("activeAt(4, " + i + ")", g.activeAt(4, i), -1);
            Kit.due("activeAt(16, " + i + ")", g.activeAt(16, i), -1);
            Kit.due("activeAt(1 << 30, " + i + ")", g.activeAt(1 << 30, i), -1);
        }
    }

    private static void passiveOfNoNode() {
        Kit.says("passiveAt(n, i) answers entry i of P(n). It answers -1 if n is not a valid node");
        for (int wrong : Kit.NOT_NODES_OF_16) {
            Kit.refused(() -> States.busy(16), "passiveAt(" + wrong + ", 0)", g -> g.passiveAt(wrong, 0), -1);
        }
        GossipOverlay g = new GossipOverlay(5, 2, 8, 2);
        Kit.see(g, 0, 1, 2, 3, 4);
        Kit.see(g, 4, 0, 1, 2, 3);
        for (int i = -20; i <= 20; i++) {
            Kit.due("passiveAt(-1, " + i + ")", g.passiveAt(-1, i), -1);
            Kit.due("passiveAt(5, " + i + ")", g.passiveAt(5, i), -1);
            Kit.due("passiveAt(16, " + i + ")", g.passiveAt(16, i), -1);
            Kit.due("passiveAt(1 << 29, " + i + ")", g.passiveAt(1 << 29, i), -1);
        }
    }

    private static void crashedNode() {
        Kit.says("A crashed node's views are empty, so both answer -1 for it.");
        GossipOverlay g = new GossipOverlay(16, 4, 8, 2);
        Kit.see(g, 0, 1, 2, 3, 4, 5, 6, 7, 8, 9, 10, 11, 12);
        Kit.due("activeAt(0, 3)", g.activeAt(0, 3), 12);
        Kit.due("passiveAt(0, 7)", g.passiveAt(0, 7), 8);
        g.crash(0);
        for (int i = 0; i < 8; i++) {
            Kit.due("activeAt(0, " + i + ")", g.activeAt(0, i), -1);
            Kit.due("passiveAt(0, " + i + ")", g.passiveAt(0, i), -1);
        }
    }

    private static void changeNothing() {
        Kit.says("Neither call changes anything.");
        for (Supplier<GossipOverlay> made : States.OF_16) {
            Kit.changesNothing(made, "activeAt and passiveAt of each place", g -> {
                int sum = 0;
                for (int n = -1; n <= 16; n++) {
                    for (int i = -1; i <= 8; i++) {
                        sum += g.activeAt(n, i) + g.passiveAt(n, i);
                    }
                }
                return sum;
            });
        }
    }
}
