import java.util.Random;

/** "State and shared steps", its first half: the state, and the terms used throughout. */
public final class StateBoundaryTest {
    public static void main(String[] args) {
        aliveOrNot();
        activeViewHasItsCap();
        passiveViewHasItsCap();
        eagerSetIsPartOfTheActiveView();
        deliveredSetHoldsSixteenIds();
        announcersAndTimers();
        poolHas64Slots();
        appendPutsAtTheEnd();
        removeKeepsTheOrder();
        firstIsPositionZero();
        masksFromBit0ToBit15();
        ascendingIsByNumber();
        nodesAreValidUpToTheLast();
        argsGoUpTo65535();
        codesHoldTheGreatestNumbers();
        sendsFollowTheOrderWritten();
        Kit.end();
    }

    /** The numbers from one to another with blanks between, as the lists are shown. */
    private static String row(int from, int to) {
        StringBuilder all = new StringBuilder();
        for (int i = from; i <= to; i++) {
            all.append(i == from ? "" : " ").append(i);
        }
        return all.toString();
    }

    private static void aliveOrNot() {
        Kit.says("alive(x);");
        GossipOverlay g = new GossipOverlay(16, 2, 2, 2);
        for (int n = 0; n < 16; n++) {
            Kit.due("isAlive(" + n + ")", g.isAlive(n), true);
        }
        g.crash(0);
        g.crash(15);
        for (int n = 0; n < 16; n++) {
            Kit.due("isAlive(" + n + ")", g.isAlive(n), n != 0 && n != 15);
        }
    }

    private static void activeViewHasItsCap() {
        Kit.says("the active view A(x), an ordered list of at most ACAP nodes;");
        for (int cap = 2; cap <= 4; cap++) {
            GossipOverlay g = new GossipOverlay(16, cap, 8, 2);
            for (int n = 1; n <= 6; n++) {
                Kit.see(g, 0, n);
                Kit.due("A(0) with cap " + cap, Kit.active(g, 0), row(Math.max(1, n - cap + 1), n));
            }
        }
    }

    private static void passiveViewHasItsCap() {
        Kit.says("the passive view P(x), an ordered list of at most PCAP nodes;");
        for (int cap = 1; cap <= 8; cap++) {
            GossipOverlay g = new GossipOverlay(16, 2, cap, 2);
            Kit.see(g, 0, 1, 2);
            Kit.due("P(0) while A(0) has room", Kit.passive(g, 0), "");
            for (int n = 3; n <= 15; n++) {
                Kit.see(g, 0, n);
                Kit.due("P(0) with cap " + cap, Kit.passive(g, 0), row(Math.max(1, n - cap - 1), n - 2));
            }
        }
    }

    private static void eagerSetIsPartOfTheActiveView() {
        Kit.says("the eager set E(x), which is always a subset of A(x);");
        for (int seed = 0; seed < 20; seed++) {
            GossipOverlay g = new GossipOverlay(7, 2 + seed % 3, 3, 1);
            Random random = new Random(seed);
            for (int i = 0; i < 300; i++) {
                int pick = random.nextInt(20);
                if (pick == 0 && i % 10 == 0) {
                    g.crash(random.nextInt(7));
                } else if (pick < 2) {
                    g.broadcast(random.nextInt(7));
                } else if (pick < 5) {
                    g.join(random.nextInt(7), random.nextInt(7));
                } else if (pick < 7) {
                    g.tick();
                } else {
                    g.deliver(random.nextInt(20));
                }
                for (int n = 0; n < 7; n++) {
                    for (int p = 0; p < 7; p++) {
                        boolean held = (" " + Kit.active(g, n) + " ").contains(" " + p + " ");
                        Kit.due("isEager(" + n + ", " + p + ") of a node not held", g.isEager(n, p) && !held, false);
                    }
                }
            }
        }
    }

    private static void deliveredSetHoldsSixteenIds() {
        Kit.says("the delivered set D(x) of broadcast ids 0..15;");
        GossipOverlay g = new GossipOverlay(2, 2, 2, 2);
        Kit.link(g, 0, 1);
        for (int b = 0; b < 16; b++) {
            g.broadcast(0);
            Kit.settle(g);
            Kit.due("delivered(0)", g.delivered(0), (2 << b) - 1);
            Kit.due("delivered(1)", g.delivered(1), (2 << b) - 1);
        }
    }

    private static void announcersAndTimers() {
        Kit.says("for each broadcast id b, an announcer set ANN(x,b) of nodes and a timer T(x,b) >= 0.");
        GossipOverlay g = new GossipOverlay(16, 2, 2, 1);
        Kit.see(g, 0, 15);
        for (int b = 0; b < 16; b++) {
            g.broadcast(0);
            Kit.settle(g);
        }
        g.join(7, 0);
        g.deliver(0);
        g.drop(0);
        g.drop(2);
        g.deliver(1);
        g.join(7, 15);
        Kit.settle(g);
        for (int b = 0; b < 16; b++) {
            Kit.due("graftState(7, " + b + ")", g.graftState(7, b), 1 | 1 << 15 | 1 << 16);
        }
        g.tick();
        g.tick();
        for (int i = 0; i < 40; i++) {
            Kit.due("tick() when all timers have run out", g.tick(), 0);
            Kit.due("graftState(7, 0)", g.graftState(7, 0), 0);
            Kit.due("graftState(7, 15)", g.graftState(7, 15), 0);
        }
    }

    private static void poolHas64Slots() {
        Kit.says("The object also has the pool of 64 slots, each either free or holding one message, "
            + "and the counter lost.");
        GossipOverlay g = new GossipOverlay(2, 2, 2, 2);
        for (int slot = 0; slot < 64; slot++) {
            Kit.due("message(" + slot + ") of a free slot", g.message(slot), -1);
            g.join(1, 0);
            Kit.due("message(" + slot + ")", g.message(slot), 1 << 24 | 1 << 20);
            Kit.due("lost()", g.lost(), 0);
        }
        g.join(1, 0);
        Kit.due("lost() after 65 joins", g.lost(), 1);
        Kit.due("pending() after 65 joins", g.pending(), 64);
    }

    private static void appendPutsAtTheEnd() {
        Kit.says("\"Append\" puts an entry at the end.");
        GossipOverlay g = new GossipOverlay(8, 3, 3, 2);
        Kit.see(g, 0, 7);
        Kit.due("A(0), that was empty", Kit.active(g, 0), "7");
        Kit.see(g, 0, 3, 5);
        Kit.due("A(0)", Kit.active(g, 0), "7 3 5");
        Kit.see(g, 0, 1);
        Kit.due("P(0), that was empty", Kit.passive(g, 0), "7");
        Kit.see(g, 0, 2, 4);
        Kit.due("P(0)", Kit.passive(g, 0), "7 3 5");
    }

    private static void removeKeepsTheOrder() {
        Kit.says("\"Remove\" deletes the entry and shifts every later entry one place toward the front, "
            + "so order is kept.");
        String[] activeLeft = {"3 2 1", "4 2 1", "4 3 1", "4 3 2"};
        for (int i = 0; i < 4; i++) {
            GossipOverlay g = new GossipOverlay(6, 4, 2, 2);
            Kit.see(g, 0, 4, 3, 2, 1);
            g.crash(4 - i);
            Kit.due("A(0) without its entry " + i, Kit.active(g, 0), activeLeft[i]);
        }
        GossipOverlay only = new GossipOverlay(3, 2, 2, 2);
        Kit.see(only, 0, 1);
        only.crash(1);
        Kit.due("A(0) without its only entry", Kit.active(only, 0), "");

        // Node 6 leaves the active view for the passive one each time.
        String[] passiveLeft = {"3 2 1 6", "4 2 1 6", "4 3 1 6", "4 3 2 6"};
        for (int i = 0; i < 4; i++) {
            GossipOverlay g = new GossipOverlay(8, 2, 8, 2);
            Kit.see(g, 0, 4, 3, 2, 1, 6, 7);
            Kit.due("P(0)", Kit.passive(g, 0), "4 3 2 1");
            Kit.see(g, 0, 4 - i);
            Kit.due("P(0) without its entry " + i, Kit.passive(g, 0), passiveLeft[i]);
        }
    }

    private static void firstIsPositionZero() {
        Kit.says("\"First\" means position 0.");
        GossipOverlay g = new GossipOverlay(16, 3, 3, 2);
        Kit.see(g, 0, 9, 3, 12);
        g.shuffle(0);
        Kit.due("who gets the shuffle of A(0) = 9 3 12", g.message(0) >> 16 & 15, 9);
    }

    private static void masksFromBit0ToBit15() {
        Kit.says("A mask has bit i (value 1<<i) for node i or for id i.");
        GossipOverlay g = new GossipOverlay(16, 2, 2, 2);
        Kit.see(g, 15, 1, 0);
        g.shuffle(15);
        Kit.due("a mask of nodes 0 and 15", g.message(0) & 0xffff, 32769);
        g.drop(0);
        g.broadcast(1);
        for (int b = 1; b < 15; b++) {
            g.broadcast(2);
        }
        g.broadcast(1);
        Kit.due("a mask of ids 0 and 15", g.delivered(1), 32769);
        Kit.due("a mask of ids 1 to 14", g.delivered(2), 32766);
    }

    private static void ascendingIsByNumber() {
        Kit.says("\"Ascending\" means by increasing i.");
        GossipOverlay g = new GossipOverlay(16, 4, 8, 2);
        Kit.tell(g, 9, 0, 15, 7, 1);
        Kit.due("P(0), told of 15 7 1 by 9", Kit.passive(g, 0), "1 7 9 15");
    }

    private static void nodesAreValidUpToTheLast() {
        Kit.says("Node arguments are valid only in 0..N-1.");
        for (int nodes = 2; nodes <= 16; nodes++) {
            int last = nodes - 1;
            GossipOverlay g = new GossipOverlay(nodes, 2, 2, 2);
            Kit.due("join of the last", g.join(last, 0), true);
            Kit.due("join to the last", g.join(0, last), true);
            g.deliver(0);
            g.deliver(1);
            Kit.dropAll(g);
            Kit.due("activeAt of the last", g.activeAt(last, 0), 0);
            Kit.due("activeAt of 0", g.activeAt(0, 0), last);
            Kit.due("isEager of the last", g.isEager(last, 0), true);
            Kit.due("isEager to the last", g.isEager(0, last), true);
            Kit.due("shuffle of the last", g.shuffle(last), true);
            Kit.due("broadcast of the last", g.broadcast(last), 0);
            Kit.due("delivered of the last", g.delivered(last), 1);
            Kit.due("isAlive of the last", g.isAlive(last), true);
            noNode(g, -1);
            noNode(g, nodes);
            Kit.due("crash of the last", g.crash(last), true);
            Kit.due("crash of 0", g.crash(0), true);
        }
    }

    private static void noNode(GossipOverlay g, int n) {
        String before = Kit.all(g);
        Kit.due("join(" + n + ", 0)", g.join(n, 0), false);
        Kit.due("join(0, " + n + ")", g.join(0, n), false);
        Kit.due("shuffle(" + n + ")", g.shuffle(n), false);
        Kit.due("crash(" + n + ")", g.crash(n), false);
        Kit.due("broadcast(" + n + ")", g.broadcast(n), -1);
        Kit.due("activeAt(" + n + ", 0)", g.activeAt(n, 0), -1);
        Kit.due("passiveAt(" + n + ", 0)", g.passiveAt(n, 0), -1);
        Kit.due("isEager(" + n + ", 0)", g.isEager(n, 0), false);
        Kit.due("isEager(0, " + n + ")", g.isEager(0, n), false);
        Kit.due("delivered(" + n + ")", g.delivered(n), 0);
        Kit.due("graftState(" + n + ", 0)", g.graftState(n, 0), 0);
        Kit.due("isAlive(" + n + ")", g.isAlive(n), false);
        Kit.due("the state", Kit.all(g), before);
    }

    /** A JOIN of node 14 to node 15 lies in slot 0; node 15 has made all sixteen broadcasts and has no peer. */
    private static GossipOverlay allMade() {
        GossipOverlay g = new GossipOverlay(16, 2, 2, 2);
        for (int b = 0; b < 16; b++) {
            g.broadcast(15);
        }
        g.join(14, 15);
        return g;
    }

    private static void argsGoUpTo65535() {
        Kit.says("A message is (kind, from, to, arg) with 0 <= arg < 65536.");
        GossipOverlay g = allMade();
        g.deliver(0);
        Kit.due("the pool", Kit.pool(g), "0:LINK 15>14 0, 1:IHAVE 15>14 65535");
    }

    private static void codesHoldTheGreatestNumbers() {
        Kit.says("Its code is kind<<24 | from<<20 | to<<16 | arg.");
        GossipOverlay g = allMade();
        Kit.due("message(0), a JOIN 14>15", g.message(0), 0x01ef0000);
        g.deliver(0);
        Kit.due("message(1), an IHAVE of all ids", g.message(1), 0x0afeffff);
    }

    private static void sendsFollowTheOrderWritten() {
        Kit.says("Sends happen in the order written, so slot numbers follow that order.");
        GossipOverlay g = new GossipOverlay(6, 2, 2, 2);
        Kit.see(g, 0, 1, 2);
        g.broadcast(0);
        Kit.settle(g);
        g.join(4, 5);
        g.join(3, 0);
        Kit.fillPool(g, 4, 5);
        g.drop(0);
        g.drop(40);
        g.drop(63);
        g.deliver(1);
        Kit.due("message(0), a DISCONNECT 0>1", g.message(0), 0x04010000);
        Kit.due("message(1), a LINK 0>3", g.message(1), 0x03030000);
        Kit.due("message(40), an IHAVE 0>3", g.message(40), 0x0a030001);
        Kit.due("message(63), a FORWARDJOIN 0>2", g.message(63), 0x02020033);
        Kit.due("pending()", g.pending(), 64);
        Kit.due("lost()", g.lost(), 0);
    }
}
