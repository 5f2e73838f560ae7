import java.util.List;
import java.util.Random;
import java.util.function.BiFunction;
import java.util.function.Supplier;

/**
 * Objects in the middle of a run, on which calls that must be refused are tried.
 * Node 2 is dead in all of them but the fresh one.
 */
final class States {
    static final List<Supplier<GossipOverlay>> OF_16 = List.of(
        States::fresh, () -> busy(16), () -> full(16), () -> spent(16));

    /** A mask has bits for the nodes 5 to 15 too, so these show whether the number of nodes is looked at. */
    static final List<Supplier<GossipOverlay>> OF_5 = List.of(() -> busy(5), () -> full(5), () -> spent(5));

    private States() {
    }

    /** The call of one node must be refused for every number that is no node. */
    static void refuseNoNode(String name, BiFunction<GossipOverlay, Integer, Object> call, Object want) {
        for (Supplier<GossipOverlay> made : OF_16) {
            for (int wrong : Kit.NOT_NODES_OF_16) {
                refuse(made, name, wrong, call, want);
            }
        }
        for (Supplier<GossipOverlay> made : OF_5) {
            for (int wrong = 5; wrong <= 16; wrong++) {
                refuse(made, name, wrong, call, want);
            }
        }
    }

    /** The call of one node must be refused for the dead node 2. */
    static void refuseTheDead(String name, BiFunction<GossipOverlay, Integer, Object> call, Object want) {
        refuse(() -> busy(16), name, 2, call, want);
        refuse(() -> full(16), name, 2, call, want);
        for (Supplier<GossipOverlay> made : OF_5) {
            refuse(made, name, 2, call, want);
        }
    }

    /** The call of one slot must be refused for every number that is no slot. */
    static void refuseNoSlot(String name, BiFunction<GossipOverlay, Integer, Object> call, Object want) {
        for (Supplier<GossipOverlay> made : OF_16) {
            for (int wrong : Kit.NOT_SLOTS) {
                refuse(made, name, wrong, call, want);
            }
        }
    }

    /** The call of one slot must be refused for every slot that is free. */
    static void refuseFreeSlots(String name, BiFunction<GossipOverlay, Integer, Object> call, Object want) {
        for (int slot = 0; slot < 64; slot++) {
            refuse(States::fresh, name, slot, call, want);
            for (int nodes = 5; nodes <= 16; nodes += 11) {
                int of = nodes;
                if (busy(of).message(slot) == -1) {
                    refuse(() -> busy(of), name, slot, call, want);
                }
            }
        }
    }

    private static void refuse(Supplier<GossipOverlay> made, String name, int wrong,
        BiFunction<GossipOverlay, Integer, Object> call, Object want) {
        Kit.refused(made, name + "(" + wrong + ")", g -> call.apply(g, wrong), want);
    }

    static GossipOverlay fresh() {
        return new GossipOverlay(16, 3, 4, 3);
    }

    /**
     * Views, lazy links, deliveries and timers are there, some broadcasts are made, and messages of all
     * twelve kinds lie in the pool, which is not full.
     */
    static GossipOverlay busy(int nodes) {
        GossipOverlay g = new GossipOverlay(nodes, 3, 4, 3);
        // Seeds that were looked for until the state was as told above.
        Random random = new Random(nodes == 16 ? 8985 : 686);
        for (int i = 0; i < 400; i++) {
            if (i == 340) {
                g.crash(2);
            }
            int n = random.nextInt(nodes);
            int pick = random.nextInt(100);
            if (pick < 2) {
                g.broadcast(n);
            } else if (pick < 14) {
                g.join(n, random.nextInt(nodes));
            } else if (pick < 18) {
                g.shuffle(n);
            } else if (pick < 28) {
                g.tick();
            } else {
                g.deliver(random.nextInt(64));
            }
        }
        return g;
    }

    /** As the busy one, but with every slot used and one send lost. */
    static GossipOverlay full(int nodes) {
        GossipOverlay g = busy(nodes);
        Kit.fillPool(g, 0, 1);
        g.join(1, 0);
        return g;
    }

    /** As the busy one, but with all sixteen broadcasts made. */
    static GossipOverlay spent(int nodes) {
        GossipOverlay g = busy(nodes);
        for (int i = 0; i < 16; i++) {
            g.broadcast(i % 2);
        }
        return g;
    }
}
