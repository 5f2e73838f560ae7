import java.util.Random;

/** Long runs of calls, the same on the class and on the model, with every answer set side by side. */
public final class ModelTest {
    private static final int RUNS = 1000;
    private static final int CALLS = 400;

    private final Random random;
    private final String name;
    private final GossipOverlay g;
    private final Model m;
    private final int nodes;
    private final int crashWeight;
    private final int fillWeight;

    private ModelTest(int seed) {
        random = new Random(seed);
        // Half of the runs are small, so that views meet each other often.
        nodes = seed % 2 == 0 ? 2 + random.nextInt(5) : random.nextInt(20);
        int activeCap = random.nextInt(6);
        int passiveCap = random.nextInt(10);
        int timeout = seed % 3 == 0 ? random.nextInt(11) : random.nextInt(3);
        crashWeight = seed % 5 == 0 ? 3 : seed % 5 == 1 ? 0 : 1;
        fillWeight = seed % 7 == 0 ? 40 : 0;
        name = "run " + seed + " (" + nodes + ", " + activeCap + ", " + passiveCap + ", " + timeout + ")";
        g = new GossipOverlay(nodes, activeCap, passiveCap, timeout);
        m = new Model(nodes, activeCap, passiveCap, timeout);
    }

    public static void main(String[] args) {
        for (int seed = 1; seed <= RUNS; seed++) {
            new ModelTest(seed).run();
        }
        Kit.end();
    }

    private void run() {
        for (int call = 1; call <= CALLS; call++) {
            String at = name + " call " + call + ": ";
            oneCall(at);
            if (!sameState(at)) {
                return;
            }
        }
    }

    private int someNode() {
        // A little beyond the valid ones on both sides.
        return random.nextInt(40) == 0 ? random.nextInt(nodes + 6) - 3 : random.nextInt(Math.max(nodes, 2));
    }

    private int someSlot() {
        if (random.nextInt(20) == 0 || m.pending() == 0) {
            return random.nextInt(70) - 3;
        }
        int slot = random.nextInt(64);
        while (m.message(slot) == -1) {
            slot = (slot + 1) % 64;
        }
        return slot;
    }

    private void oneCall(String at) {
        int pick = random.nextInt(200);
        if (pick < crashWeight) {
            int n = someNode();
            Kit.due(at + "crash(" + n + ")", g.crash(n), m.crash(n));
        } else if (pick < 8) {
            int n = someNode();
            Kit.due(at + "broadcast(" + n + ")", g.broadcast(n), m.broadcast(n));
        } else if (pick < 30 + fillWeight) {
            int n = someNode();
            int c = someNode();
            Kit.due(at + "join(" + n + ", " + c + ")", g.join(n, c), m.join(n, c));
        } else if (pick < 50 + 2 * fillWeight) {
            int n = someNode();
            Kit.due(at + "shuffle(" + n + ")", g.shuffle(n), m.shuffle(n));
        } else if (pick < 65 + 2 * fillWeight) {
            Kit.due(at + "tick()", g.tick(), m.tick());
        } else if (pick < 72 + 2 * fillWeight) {
            int slot = someSlot();
            Kit.due(at + "drop(" + slot + ")", g.drop(slot), m.drop(slot));
        } else {
            int slot = someSlot();
            Kit.due(at + "deliver(" + slot + ")", g.deliver(slot), m.deliver(slot));
        }
    }

    private boolean sameState(String at) {
        boolean same = g.pending() == m.pending() && g.lost() == m.lost();
        for (int slot = -1; slot <= 64; slot++) {
            same &= g.message(slot) == m.message(slot);
        }
        for (int n = -1; n <= 16; n++) {
            same &= g.isAlive(n) == m.isAlive(n) && g.delivered(n) == m.delivered(n);
            for (int i = -1; i <= 16; i++) {
                same &= g.activeAt(n, i) == m.activeAt(n, i);
                same &= g.passiveAt(n, i) == m.passiveAt(n, i);
                same &= g.isEager(n, i) == m.isEager(n, i);
                same &= g.graftState(n, i) == m.graftState(n, i);
            }
        }
        Kit.due(at + "the state is the model's", same, true);
        return same;
    }
}
