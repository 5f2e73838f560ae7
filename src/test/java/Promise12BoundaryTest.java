import java.lang.reflect.Field;
import java.util.function.Supplier;

/** Promise 12, its boundary cases: lost and isAlive. */
public final class Promise12BoundaryTest {
    public static void main(String[] args) throws ReflectiveOperationException {
        lostCountsSendsIntoAFullPoolAlone();
        lostStartsAtZeroAndGrows();
        lostDoesNotWrapAround();
        isAliveOfNoNode();
        isAliveOfTheDead();
        changeNothing();
        Kit.end();
    }

    private static void lostCountsSendsIntoAFullPoolAlone() {
        Kit.says("lost() answers the number of sends lost because all 64 slots were used.");
        GossipOverlay g = new GossipOverlay(8, 4, 2, 1);
        Kit.see(g, 0, 1, 2, 3, 4);
        Kit.fillPool(g, 5, 6);
        Kit.due("lost() with the pool just full", g.lost(), 0);
        g.join(6, 6);
        g.join(-1, 0);
        g.shuffle(7);
        g.broadcast(8);
        g.deliver(64);
        g.drop(64);
        g.tick();
        Kit.due("lost() after calls that send nothing", g.lost(), 0);
        g.join(6, 5);
        Kit.due("lost() after a JOIN", g.lost(), 1);
        g.shuffle(0);
        Kit.due("lost() after a SHUFFLE", g.lost(), 2);
        g.broadcast(0);
        Kit.due("lost() after four GOSSIPs", g.lost(), 6);
        // What the caller drops or a crash removes is not lost.
        g.drop(0);
        g.drop(63);
        g.join(6, 5);
        g.join(6, 5);
        Kit.due("lost() after two that fit", g.lost(), 6);
        g.crash(5);
        Kit.due("pending()", g.pending(), 0);
        Kit.due("lost() after a crash", g.lost(), 6);

        // A JOIN in the last slot: of DISCONNECT, LINK and three walks one fits.
        GossipOverlay most = new GossipOverlay(8, 4, 2, 1);
        Kit.see(most, 0, 1, 2, 3, 4);
        Kit.fillPool(most, 5, 0);
        most.deliver(63);
        Kit.due("lost()", most.lost(), 4);
        Kit.due("message(63), a DISCONNECT 0>1", most.message(63), 0x04010000);
    }

    private static void lostStartsAtZeroAndGrows() {
        Kit.says("It starts at 0 and only grows.");
        GossipOverlay g = new GossipOverlay(4, 2, 2, 2);
        Kit.due("lost()", g.lost(), 0);
        Kit.fillPool(g, 1, 0);
        for (int i = 1; i <= 70000; i++) {
            g.join(1, 0);
            Kit.due("lost()", g.lost(), i);
        }
        Kit.dropAll(g);
        g.crash(0);
        g.crash(1);
        g.tick();
        Kit.due("lost() of an empty pool", g.lost(), 70000);
        g.crash(2);
        g.crash(3);
        Kit.due("lost() with all dead", g.lost(), 70000);
    }

    private static void lostDoesNotWrapAround() throws ReflectiveOperationException {
        Kit.says("It starts at 0 and only grows.");
        GossipOverlay g = new GossipOverlay(4, 2, 2, 2);
        Kit.fillPool(g, 1, 0);
        // Two thousand million sends would take too long, so the count is put near its end by hand.
        Field count = GossipOverlay.class.getDeclaredField("lostSends");
        count.setAccessible(true);
        count.setInt(g, Integer.MAX_VALUE - 1);
        g.join(1, 0);
        Kit.due("lost()", g.lost(), Integer.MAX_VALUE);
        g.join(1, 0);
        Kit.due("lost(), which an int cannot count any further", g.lost(), Integer.MAX_VALUE);
    }

    private static void isAliveOfNoNode() {
        Kit.says("isAlive(n) answers true iff n is a valid node and n is alive.");
        States.refuseNoNode("isAlive", GossipOverlay::isAlive, false);
    }

    private static void isAliveOfTheDead() {
        Kit.says("isAlive(n) answers true iff n is a valid node and n is alive.");
        GossipOverlay g = new GossipOverlay(16, 2, 2, 2);
        for (int dead = 0; dead < 16; dead++) {
            Kit.due("isAlive(" + dead + ")", g.isAlive(dead), true);
            g.crash(dead);
            for (int n = 0; n < 16; n++) {
                Kit.due("isAlive(" + n + ")", g.isAlive(n), n > dead);
            }
        }
    }

    private static void changeNothing() {
        Kit.says("Neither call changes anything.");
        for (Supplier<GossipOverlay> made : States.OF_16) {
            Kit.changesNothing(made, "lost() and isAlive of all", g -> {
                int sum = g.lost();
                for (int n = -1; n <= 16; n++) {
                    sum += g.isAlive(n) ? 1 : 0;
                }
                return sum + g.lost();
            });
        }
    }
}
