import java.util.Random;
import java.util.function.Supplier;

/** Promise 11, its boundary cases: isEager, delivered and graftState. */
public final class Promise11BoundaryTest {
    public static void main(String[] args) {
        isEagerOfNoNode();
        isEagerByTheSet();
        deliveredFromNoneToAll();
        deliveredOfNoNode();
        deliveredOfACrashedNode();
        deliveredNeverShrinks();
        graftStateAtItsGreatest();
        graftStateOfNoNodeOrNoId();
        changeNothing();
        Kit.end();
    }

    private static void isEagerOfNoNode() {
        Kit.says("isEager(n, p) answers true iff n and p are valid nodes and p is in E(n).");
        // All bits that a number below 16 can have are set in E(0) or E(15).
        Supplier<GossipOverlay> made = () -> {
            GossipOverlay g = new GossipOverlay(16, 4, 2, 2);
            Kit.see(g, 0, 1, 8, 14, 15);
            Kit.see(g, 15, 0, 1, 7, 14);
            return g;
        };
        for (int wrong : new int[] {Integer.MIN_VALUE, -32, -31, -17, -16, -1, 16, 17, 31, 32, 33, 40, 47, 48,
            Integer.MAX_VALUE}) {
            Kit.refused(made, "isEager(0, " + wrong + ")", g -> g.isEager(0, wrong), false);
            Kit.refused(made, "isEager(15, " + wrong + ")", g -> g.isEager(15, wrong), false);
            Kit.refused(made, "isEager(" + wrong + ", 1)", g -> g.isEager(wrong, 1), false);
            Kit.refused(made, "isEager(" + wrong + ", " + wrong + ")", g -> g.isEager(wrong, wrong), false);
        }
        for (Supplier<GossipOverlay> five : States.OF_5) {
            for (int wrong = 5; wrong <= 16; wrong++) {
                int n = wrong;
                Kit.refused(five, "isEager(0, " + n + ")", g -> g.isEager(0, n), false);
                Kit.refused(five, "isEager(" + n + ", 0)", g -> g.isEager(n, 0), false);
            }
        }
    }

    private static void isEagerByTheSet() {
        Kit.says("isEager(n, p) answers true iff n and p are valid nodes and p is in E(n).");
        GossipOverlay g = new GossipOverlay(16, 3, 2, 2);
        Kit.see(g, 0, 5, 1, 15, 7);
        Kit.makeLazy(g, 3, 0, 15);
        for (int p = 0; p < 16; p++) {
            Kit.due("isEager(0, " + p + ")", g.isEager(0, p), p == 1 || p == 7);
        }
        Kit.due("isEager(0, 15) of a lazy peer", g.isEager(0, 15), false);
        Kit.due("isEager(0, 5) of a passive peer", g.isEager(0, 5), false);
        Kit.due("isEager(1, 0), that does not hold 0", g.isEager(1, 0), false);
        Kit.due("isEager(0, 0)", g.isEager(0, 0), false);
        g.crash(0);
        Kit.due("isEager(0, 1) of a dead node", g.isEager(0, 1), false);
    }

    private static void deliveredFromNoneToAll() {
        Kit.says("delivered(n) answers the mask of D(n).");
        GossipOverlay g = new GossipOverlay(16, 2, 2, 2);
        Kit.see(g, 15, 0);
        for (int b = 0; b < 16; b++) {
            Kit.due("delivered(15)", g.delivered(15), (1 << b) - 1);
            Kit.due("delivered(0)", g.delivered(0), (1 << b) - 1);
            g.broadcast(15);
            Kit.due("delivered(0), not yet reached", g.delivered(0), (1 << b) - 1);
            g.deliver(0);
        }
        Kit.due("delivered(15)", g.delivered(15), 65535);
        Kit.due("delivered(0)", g.delivered(0), 65535);
        Kit.due("delivered(7), that was not reached", g.delivered(7), 0);
    }

    private static void deliveredOfNoNode() {
        Kit.says("It answers 0 if n is not a valid node.");
        Supplier<GossipOverlay> made = () -> {
            GossipOverlay g = new GossipOverlay(16, 2, 2, 2);
            for (int b = 0; b < 16; b++) {
                g.broadcast(b);
            }
            return g;
        };
        for (int n = 0; n < 16; n++) {
            Kit.due("delivered(" + n + ")", made.get().delivered(n), 1 << n);
        }
        for (int wrong : Kit.NOT_NODES_OF_16) {
            Kit.due("delivered(" + wrong + ")", made.get().delivered(wrong), 0);
        }
        States.refuseNoNode("delivered", GossipOverlay::delivered, 0);
    }

    private static void deliveredOfACrashedNode() {
        Kit.says("A crashed node keeps its D(n).");
        GossipOverlay g = new GossipOverlay(4, 2, 2, 2);
        for (int b = 0; b < 16; b++) {
            g.broadcast(b % 2);
        }
        g.crash(0);
        g.crash(1);
        g.crash(3);
        Kit.due("delivered(0)", g.delivered(0), 0x5555);
        Kit.due("delivered(1)", g.delivered(1), 0xaaaa);
        Kit.due("delivered(3), that had none", g.delivered(3), 0);
        g.tick();
        g.broadcast(2);
        Kit.due("delivered(0)", g.delivered(0), 0x5555);
    }

    private static void deliveredNeverShrinks() {
        Kit.says("Once a bit is set in some D(n), it never becomes 0 again.");
        for (int seed = 0; seed < 20; seed++) {
            GossipOverlay g = new GossipOverlay(6, 3, 3, 1);
            Random random = new Random(seed);
            int[] had = new int[6];
            for (int i = 0; i < 400; i++) {
                int pick = random.nextInt(30);
                if (pick == 0 && i % 5 == 0) {
                    g.crash(random.nextInt(6));
                } else if (pick < 3) {
                    g.broadcast(random.nextInt(6));
                } else if (pick < 7) {
                    g.join(random.nextInt(6), random.nextInt(6));
                } else if (pick < 9) {
                    g.tick();
                } else if (pick < 11) {
                    g.shuffle(random.nextInt(6));
                } else {
                    g.deliver(random.nextInt(24));
                }
                for (int n = 0; n < 6; n++) {
                    Kit.due("the bits that delivered(" + n + ") has lost", had[n] & ~g.delivered(n), 0);
                    had[n] = g.delivered(n);
                }
            }
        }
    }

    private static void graftStateAtItsGreatest() {
        Kit.says("graftState(n, b) answers (mask of ANN(n,b)) | (T(n,b)<<16).");
        // Node 8 hears of the last id from all the others, by the longest timer.
        GossipOverlay g = new GossipOverlay(16, 4, 8, 8);
        Kit.see(g, 0, 1, 2, 3, 4);
        Kit.see(g, 4, 5, 6, 7, 9);
        Kit.see(g, 9, 10, 11, 12, 13);
        Kit.see(g, 13, 14, 15);
        for (int b = 0; b < 15; b++) {
            g.broadcast(8);
        }
        g.broadcast(0);
        Kit.settle(g);
        int announcers = 0;
        for (int n = 0; n < 16; n++) {
            if (n != 8) {
                Kit.announce(g, n, 8);
                announcers |= 1 << n;
                Kit.due("graftState(8, 15)", g.graftState(8, 15), announcers | 8 << 16);
            }
        }
        Kit.due("graftState(8, 15)", g.graftState(8, 15), 0x0008feff);
        Kit.due("graftState(8, 14), of its own", g.graftState(8, 14), 0);
        for (int left = 7; left > 0; left--) {
            g.tick();
            Kit.due("graftState(8, 15)", g.graftState(8, 15), 0xfeff | left << 16);
        }
        g.tick();
        Kit.due("graftState(8, 15), 0 asked", g.graftState(8, 15), 0x0008fefe);
    }

    private static void graftStateOfNoNodeOrNoId() {
        Kit.says("It answers 0 if n is not a valid node or b is not in 0..15.");
        // Every node but 0 waits for every id.
        Supplier<GossipOverlay> made = () -> {
            GossipOverlay g = new GossipOverlay(16, 4, 2, 8);
            for (int b = 0; b < 16; b++) {
                g.broadcast(0);
            }
            for (int n = 1; n < 16; n++) {
                Kit.announce(g, 0, n);
            }
            return g;
        };
        GossipOverlay all = made.get();
        for (int n = 0; n < 16; n++) {
            for (int b = 0; b < 16; b++) {
                Kit.due("graftState(" + n + ", " + b + ")", all.graftState(n, b), n == 0 ? 0 : 1 | 8 << 16);
            }
        }
        for (int wrong : Kit.NOT_NODES_OF_16) {
            Kit.refused(made, "graftState(" + wrong + ", 0)", g -> g.graftState(wrong, 0), 0);
            Kit.refused(made, "graftState(" + wrong + ", 15)", g -> g.graftState(wrong, 15), 0);
        }
        // Ids by which one node's row would be left for another's.
        for (int wrong : new int[] {Integer.MIN_VALUE, -17, -16, -1, 16, 17, 32, 256, Integer.MAX_VALUE}) {
            Kit.refused(made, "graftState(7, " + wrong + ")", g -> g.graftState(7, wrong), 0);
            Kit.refused(made, "graftState(0, " + wrong + ")", g -> g.graftState(0, wrong), 0);
            Kit.refused(made, "graftState(15, " + wrong + ")", g -> g.graftState(15, wrong), 0);
            Kit.refused(made, "graftState(-1, " + wrong + ")", g -> g.graftState(-1, wrong), 0);
        }
        GossipOverlay five = States.busy(5);
        for (int n = 5; n <= 16; n++) {
            for (int b = 0; b < 16; b++) {
                Kit.due("graftState(" + n + ", " + b + ") of 5 nodes", five.graftState(n, b), 0);
            }
        }
    }

    private static void changeNothing() {
        Kit.says("None of these calls changes anything.");
        for (Supplier<GossipOverlay> made : States.OF_16) {
            Kit.changesNothing(made, "isEager, delivered and graftState of all", g -> {
                int sum = 0;
                for (int n = -1; n <= 16; n++) {
                    sum += g.delivered(n);
                    for (int i = -1; i <= 16; i++) {
                        sum += g.graftState(n, i) + (g.isEager(n, i) ? 1 : 0);
                    }
                }
                return sum;
            });
        }
    }
}
