/** "State and shared steps", its second half: SEND, ADDP, ADDA, REPAIR and FORWARD. */
public final class StepsBoundaryTest {
    public static void main(String[] args) {
        sendToADeadNode();
        sendIntoAFullPool();
        sendTakesTheLowestFreeSlot();
        addPassiveOfItself();
        addPassiveOfAnActivePeer();
        addPassiveOfAPassivePeer();
        addPassiveIntoAFullView();
        addPassiveOfADeadNode();
        addActiveOfADeadNode();
        addActiveOfAnActivePeer();
        addActiveTakesFromThePassiveView();
        addActiveIntoAFullView();
        addActiveAppendsAndMakesEager();
        addActiveLinksOnlyIfAsked();
        addActiveAnnouncesOnlyAHistory();
        repairWithAFullActiveView();
        repairWithAnEmptyPassiveView();
        repairTakesTheFirst();
        repairAsksUrgentlyOnlyWhenAlone();
        repairStopsAtOneRequest();
        repairPassesOverTheDead();
        forwardWithoutPeers();
        forwardSkipsTheSender();
        forwardByEagerAndLazy();
        Kit.end();
    }

    // ---- SEND ----

    /** Node 1 holds the dead node 0 as its announcer of id 0; the next tick asks it. */
    private static GossipOverlay askingTheDead() {
        GossipOverlay g = new GossipOverlay(4, 2, 2, 1);
        g.broadcast(0);
        g.join(1, 0);
        Kit.settle(g);
        g.crash(0);
        return g;
    }

    private static void sendToADeadNode() {
        Kit.says("If y is not alive, nothing happens.");
        GossipOverlay empty = askingTheDead();
        Kit.due("tick()", empty.tick(), 1);
        Kit.due("pending()", empty.pending(), 0);
        Kit.due("lost()", empty.lost(), 0);

        // A full pool makes no difference: the send is not lost, it was never made.
        GossipOverlay full = askingTheDead();
        Kit.fillPool(full, 2, 3);
        String pool = Kit.pool(full);
        Kit.due("tick()", full.tick(), 1);
        Kit.due("the pool", Kit.pool(full), pool);
        Kit.due("lost()", full.lost(), 0);
    }

    private static void sendIntoAFullPool() {
        Kit.says("Else, if all 64 slots are used, lost grows by 1 and nothing else happens.");
        GossipOverlay g = new GossipOverlay(4, 2, 2, 2);
        Kit.see(g, 0, 1, 2);
        for (int i = 0; i < 63; i++) {
            g.join(2, 3);
        }
        g.shuffle(0);
        Kit.due("lost() after a send into the last free slot", g.lost(), 0);
        Kit.due("pending()", g.pending(), 64);
        String before = Kit.all(g);
        g.shuffle(0);
        Kit.due("the state after a send into a full pool", Kit.all(g), before.replace("lost 0", "lost 1"));
        g.join(1, 0);
        Kit.due("the state after another", Kit.all(g), before.replace("lost 0", "lost 2"));
        g.broadcast(0);
        Kit.due("lost() after a push to two", g.lost(), 4);

        // GRAFTs, with room for one of the three.
        GossipOverlay graft = new GossipOverlay(4, 2, 2, 1);
        for (int b = 0; b < 3; b++) {
            graft.broadcast(0);
        }
        graft.join(1, 0);
        Kit.settle(graft);
        Kit.fillPool(graft, 2, 3);
        graft.drop(9);
        graft.tick();
        Kit.due("message(9), a GRAFT 1>0", graft.message(9), 0x0b100001);
        Kit.due("lost() after two more", graft.lost(), 2);
    }

    private static void sendTakesTheLowestFreeSlot() {
        Kit.says("Else the message (k,x,y,a) is stored in the lowest-numbered free slot.");
        GossipOverlay g = new GossipOverlay(4, 2, 2, 2);
        g.join(1, 0);
        Kit.due("message(0) of an empty pool", g.message(0), 0x01100000);
        Kit.fillPool(g, 1, 0);
        // One is lost in between, which has no bearing on the next.
        g.join(1, 0);
        int[] freed = {63, 0, 31, 32, 1};
        int[] lowestFirst = {0, 1, 31, 32, 63};
        for (int slot : freed) {
            g.drop(slot);
        }
        for (int slot : lowestFirst) {
            g.join(3, 2);
            Kit.due("message(" + slot + ")", g.message(slot), 0x01320000);
        }
        Kit.due("pending()", g.pending(), 64);
    }

    // ---- ADDP ----

    /**
     * Node 0 has A = 1 7 and, as its cap allows, the last of 4 5 6 as P. Node 1 tells it of just the one
     * node by a SHUFFLEREPLY that lies in slot 0.
     */
    private static GossipOverlay toldOf(int node, int passiveCap) {
        GossipOverlay g = new GossipOverlay(9, 2, passiveCap, 2);
        Kit.see(g, 0, 4, 5, 6, 1, 7);
        Kit.see(g, 1, node, 2, 3);
        g.shuffle(0);
        g.deliver(0);
        Kit.due("the pool", Kit.pool(g), "0:SHUFFLEREPLY 1>0 " + (1 << node));
        return g;
    }

    private static void addPassiveOfItself() {
        Kit.says("If y==x, or y is in A(x), or y is in P(x), nothing happens.");
        for (int cap = 1; cap <= 4; cap++) {
            GossipOverlay g = toldOf(0, cap);
            String before = Kit.node(g, 0);
            g.deliver(0);
            Kit.due("node 0, told of itself", Kit.node(g, 0), before);
        }
    }

    private static void addPassiveOfAnActivePeer() {
        Kit.says("If y==x, or y is in A(x), or y is in P(x), nothing happens.");
        for (int cap = 1; cap <= 4; cap++) {
            GossipOverlay g = toldOf(7, cap);
            String before = Kit.node(g, 0);
            g.deliver(0);
            Kit.due("node 0, told of its active peer 7", Kit.node(g, 0), before);
        }
    }

    private static void addPassiveOfAPassivePeer() {
        Kit.says("If y==x, or y is in A(x), or y is in P(x), nothing happens.");
        String[] passive = {"6", "5 6", "4 5 6", "4 5 6"};
        for (int cap = 1; cap <= 4; cap++) {
            GossipOverlay last = toldOf(6, cap);
            last.deliver(0);
            Kit.due("P(0), told of its last", Kit.passive(last, 0), passive[cap - 1]);
        }
        GossipOverlay first = toldOf(4, 3);
        first.deliver(0);
        Kit.due("P(0), told of its first", Kit.passive(first, 0), "4 5 6");
    }

    private static void addPassiveIntoAFullView() {
        Kit.says("Else, if |P(x)|==PCAP, the first of P(x) is removed; then y is appended to P(x).");
        String[] passive = {"8", "6 8", "5 6 8", "4 5 6 8", "4 5 6 8"};
        for (int cap = 1; cap <= 5; cap++) {
            GossipOverlay g = toldOf(8, cap);
            g.deliver(0);
            Kit.due("P(0) with cap " + cap, Kit.passive(g, 0), passive[cap - 1]);
        }
        GossipOverlay greatest = new GossipOverlay(16, 2, 8, 2);
        Kit.see(greatest, 0, 15, 14, 13, 12, 11, 10, 9, 8, 7, 6);
        Kit.due("P(0), just full", Kit.passive(greatest, 0), "15 14 13 12 11 10 9 8");
        Kit.see(greatest, 0, 5);
        Kit.due("P(0), full", Kit.passive(greatest, 0), "14 13 12 11 10 9 8 7");
    }

    private static void addPassiveOfADeadNode() {
        Kit.says("then y is appended to P(x).");
        GossipOverlay g = toldOf(8, 3);
        g.crash(8);
        g.deliver(0);
        Kit.due("P(0), told of the dead 8", Kit.passive(g, 0), "5 6 8");
    }

    // ---- ADDA ----

    private static void addActiveOfADeadNode() {
        // The case y==x does not come about: nobody sends to itself, and a walk is never sent to its joiner.
        Kit.says("If y==x, or y is not alive, or y is in A(x), nothing happens.");
        // A walk for 7, which dies on the way, ends at node 1: it has room, and no peer to send the walk on to.
        GossipOverlay room = new GossipOverlay(8, 2, 2, 2);
        Kit.see(room, 0, 1);
        room.join(7, 0);
        room.deliver(0);
        room.crash(7);
        Kit.due("the pool", Kit.pool(room), "1:FORWARDJOIN 0>1 55");
        room.deliver(1);
        Kit.due("node 1", Kit.node(room, 1), "alive A[] P[] E[] D0 W[]");
        Kit.due("the pool", Kit.pool(room), "");

        // The same at a full view that has delivered something: no one is put out for the dead, or told.
        GossipOverlay full = new GossipOverlay(8, 2, 2, 2);
        Kit.see(full, 0, 1);
        Kit.see(full, 1, 0, 2);
        Kit.see(full, 2, 1, 3);
        Kit.see(full, 3, 2, 4);
        Kit.see(full, 4, 3, 5);
        full.broadcast(4);
        Kit.settle(full);
        full.join(7, 0);
        full.deliver(0);
        full.crash(7);
        for (int i = 0; i < 3; i++) {
            Kit.deliverNext(full);
        }
        Kit.due("the pool", Kit.pool(full), "0:FORWARDJOIN 3>4 7");
        full.deliver(0);
        Kit.due("node 4", Kit.node(full, 4), "alive A[3 5] P[] E[3 5] D1 W[]");
        Kit.due("the pool", Kit.pool(full), "");
    }

    private static void addActiveOfAnActivePeer() {
        Kit.says("If y==x, or y is not alive, or y is in A(x), nothing happens.");
        GossipOverlay join = new GossipOverlay(8, 2, 2, 2);
        Kit.see(join, 0, 4, 1, 2);
        join.broadcast(0);
        Kit.settle(join);
        join.join(1, 0);
        join.deliver(0);
        Kit.due("node 0, full, that 1 joins again", Kit.node(join, 0), "alive A[1 2] P[4] E[1 2] D1 W[]");
        Kit.due("the pool, the walk alone", Kit.pool(join), "0:FORWARDJOIN 0>2 49");

        GossipOverlay lazy = new GossipOverlay(8, 3, 2, 2);
        Kit.see(lazy, 0, 1, 2);
        Kit.makeLazy(lazy, 3, 0, 1);
        Kit.due("E(0), 1 lazy", Kit.eager(lazy, 0), "2");
        lazy.join(1, 0);
        lazy.deliver(0);
        Kit.due("node 0, 1 still lazy and first", Kit.node(lazy, 0), "alive A[1 2] P[] E[2] D1 W[]");

        GossipOverlay link = new GossipOverlay(8, 3, 2, 2);
        Kit.see(link, 0, 1, 2);
        link.broadcast(0);
        Kit.settle(link);
        link.join(0, 1);
        link.deliver(0);
        Kit.due("the pool", Kit.pool(link), "0:LINK 1>0 0, 1:IHAVE 1>0 1");
        link.deliver(0);
        Kit.due("node 0", Kit.node(link, 0), "alive A[1 2] P[] E[1 2] D1 W[]");
        Kit.due("the pool, nothing new in it", Kit.pool(link), "1:IHAVE 1>0 1");
    }

    private static void addActiveTakesFromThePassiveView() {
        Kit.says("y is removed from P(x) if it is there.");
        GossipOverlay room = new GossipOverlay(8, 2, 2, 2);
        Kit.tell(room, 5, 0, 6);
        Kit.due("P(0)", Kit.passive(room, 0), "5 6");
        Kit.see(room, 0, 7);
        Kit.due("P(0), 7 was not there", Kit.passive(room, 0), "5 6");
        Kit.see(room, 0, 6);
        Kit.due("P(0) without 6", Kit.passive(room, 0), "5");

        GossipOverlay only = new GossipOverlay(8, 2, 1, 2);
        Kit.tell(only, 5, 0);
        Kit.see(only, 0, 5);
        Kit.due("P(0) without its only entry", Kit.passive(only, 0), "");
        Kit.due("A(0)", Kit.active(only, 0), "5");

        // It goes before another comes, so that a full passive view does not lose one more.
        GossipOverlay full = new GossipOverlay(8, 2, 2, 2);
        Kit.see(full, 0, 1, 2, 3, 4);
        Kit.due("P(0)", Kit.passive(full, 0), "1 2");
        Kit.see(full, 0, 2);
        Kit.due("P(0), 2 gone and 3 come", Kit.passive(full, 0), "1 3");
    }

    private static void addActiveIntoAFullView() {
        Kit.says("If |A(x)|==ACAP: let z be the first of A(x); z is removed from A(x) and from E(x); "
            + "ADDP(x,z); SEND(x,z,DISCONNECT,0).");
        String[] held = {"7 6", "7 6 5", "7 6 5 4"};
        String[] after = {"6 1", "6 5 1", "6 5 4 1"};
        for (int cap = 2; cap <= 4; cap++) {
            GossipOverlay g = new GossipOverlay(8, cap, 2, 2);
            for (int i = 0; i < cap - 1; i++) {
                Kit.see(g, 0, 7 - i);
            }
            g.join(8 - cap, 0);
            g.deliver(0);
            Kit.due("A(0), just full", Kit.active(g, 0), held[cap - 2]);
            Kit.due("P(0), no one put out", Kit.passive(g, 0), "");
            Kit.due("message(0), a LINK", g.message(0) >> 24, GossipOverlay.LINK);
            Kit.dropAll(g);
            g.join(1, 0);
            g.deliver(0);
            Kit.due("A(0), that was full", Kit.active(g, 0), after[cap - 2]);
            Kit.due("P(0)", Kit.passive(g, 0), "7");
            Kit.due("isEager(0, 7)", g.isEager(0, 7), false);
            Kit.due("message(0), a DISCONNECT 0>7", g.message(0), 0x04070000);
        }

        GossipOverlay lazy = new GossipOverlay(8, 2, 2, 2);
        Kit.see(lazy, 0, 1, 2);
        Kit.makeLazy(lazy, 3, 0, 1);
        lazy.join(4, 0);
        lazy.deliver(0);
        Kit.due("node 0, the lazy 1 put out", Kit.node(lazy, 0), "alive A[2 4] P[1] E[2 4] D1 W[]");

        GossipOverlay both = new GossipOverlay(8, 2, 2, 2);
        Kit.see(both, 0, 1, 2, 3, 4);
        Kit.see(both, 0, 5);
        Kit.due("node 0, both views full", Kit.node(both, 0), "alive A[4 5] P[2 3] E[4 5] D0 W[]");
    }

    private static void addActiveAppendsAndMakesEager() {
        Kit.says("y is appended to A(x) and added to E(x).");
        GossipOverlay g = new GossipOverlay(8, 2, 2, 2);
        Kit.see(g, 0, 1);
        Kit.due("node 0, that had no peer", Kit.node(g, 0), "alive A[1] P[] E[1] D0 W[]");
        Kit.see(g, 0, 2);
        Kit.due("node 0, with room for one", Kit.node(g, 0), "alive A[1 2] P[] E[1 2] D0 W[]");
        Kit.makeLazy(g, 3, 0, 1);
        Kit.due("E(0), 1 lazy", Kit.eager(g, 0), "2");
        g.join(4, 0);
        g.deliver(0);
        g.join(1, 0);
        Kit.due("message(4), a JOIN 1>0", g.message(4), 0x01100000);
        g.deliver(4);
        Kit.due("node 0, 1 back and eager", Kit.node(g, 0), "alive A[4 1] P[2] E[1 4] D1 W[]");
    }

    private static void addActiveLinksOnlyIfAsked() {
        Kit.says("If link is true: SEND(x,y,LINK,0).");
        GossipOverlay g = new GossipOverlay(4, 2, 2, 2);
        g.join(1, 0);
        g.deliver(0);
        Kit.due("the pool, by a JOIN", Kit.pool(g), "0:LINK 0>1 0");
        g.deliver(0);
        Kit.due("node 1, by a LINK", Kit.node(g, 1), "alive A[0] P[] E[0] D0 W[]");
        Kit.due("the pool, by a LINK", Kit.pool(g), "");
    }

    private static void addActiveAnnouncesOnlyAHistory() {
        Kit.says("If D(x) is not empty: SEND(x,y,IHAVE,mask of D(x)).");
        for (int made = 0; made <= 16; made++) {
            GossipOverlay g = new GossipOverlay(4, 2, 2, 2);
            for (int b = 0; b < made; b++) {
                g.broadcast(0);
            }
            g.join(1, 0);
            g.deliver(0);
            String history = made == 0 ? "" : ", 1:IHAVE 0>1 " + ((1 << made) - 1);
            Kit.due("the pool, " + made + " delivered", Kit.pool(g), "0:LINK 0>1 0" + history);
        }
        GossipOverlay last = new GossipOverlay(4, 2, 2, 2);
        for (int b = 0; b < 15; b++) {
            last.broadcast(3);
        }
        last.broadcast(1);
        last.join(1, 0);
        last.deliver(0);
        last.deliver(0);
        Kit.due("the pool, by a LINK", Kit.pool(last), "0:IHAVE 1>0 32768");
    }

    // ---- REPAIR ----

    /** Node 0 has A = 3, P = 2, and a REJECT from 1 in slot 0. */
    private static GossipOverlay rejected() {
        GossipOverlay g = new GossipOverlay(8, 2, 4, 2);
        Kit.see(g, 1, 5, 6);
        Kit.see(g, 0, 1, 2, 3, 4);
        g.crash(4);
        g.deliver(0);
        Kit.due("the pool", Kit.pool(g), "0:REJECT 1>0 0");
        return g;
    }

    private static void repairWithAFullActiveView() {
        Kit.says("If |A(x)|==ACAP or P(x) is empty, stop.");
        GossipOverlay g = rejected();
        g.join(7, 0);
        g.deliver(1);
        g.crash(2);
        Kit.due("node 0", Kit.node(g, 0), "alive A[3 7] P[2] E[3 7] D0 W[]");
        g.deliver(0);
        Kit.due("node 0, the dead 2 not even taken out", Kit.node(g, 0), "alive A[3 7] P[2 1] E[3 7] D0 W[]");
        Kit.due("the pool, nobody asked", Kit.pool(g), "1:LINK 0>7 0, 2:FORWARDJOIN 0>3 55");

        GossipOverlay oneShort = rejected();
        oneShort.deliver(0);
        Kit.due("the pool, one short of full", Kit.pool(oneShort), "0:NEIGHBOR 0>2 0");
    }

    private static void repairWithAnEmptyPassiveView() {
        Kit.says("If |A(x)|==ACAP or P(x) is empty, stop.");
        GossipOverlay g = new GossipOverlay(4, 2, 2, 2);
        Kit.see(g, 0, 1, 2);
        g.crash(1);
        Kit.due("node 0", Kit.node(g, 0), "alive A[2] P[] E[2] D0 W[]");
        g.crash(2);
        Kit.due("node 0", Kit.node(g, 0), "alive A[] P[] E[] D0 W[]");
        Kit.due("the pool", Kit.pool(g), "");
        Kit.due("lost()", g.lost(), 0);
    }

    private static void repairTakesTheFirst() {
        Kit.says("Let p be the first of P(x), and remove p from P(x).");
        GossipOverlay g = new GossipOverlay(8, 2, 4, 2);
        Kit.see(g, 0, 5, 3, 4, 1, 2);
        g.crash(1);
        Kit.due("P(0), that was 5 3 4", Kit.passive(g, 0), "3 4");
        Kit.due("the pool", Kit.pool(g), "0:NEIGHBOR 0>5 0");
    }

    private static void repairAsksUrgentlyOnlyWhenAlone() {
        Kit.says("If p is alive, SEND(x,p,NEIGHBOR,a) and stop, where a is 1 if A(x) is empty and 0 otherwise.");
        GossipOverlay g = new GossipOverlay(10, 4, 4, 2);
        Kit.see(g, 0, 1, 2, 3, 4, 5, 6, 7, 8);
        for (int n = 5; n <= 8; n++) {
            g.crash(n);
        }
        Kit.due("the pool", Kit.pool(g),
            "0:NEIGHBOR 0>1 0, 1:NEIGHBOR 0>2 0, 2:NEIGHBOR 0>3 0, 3:NEIGHBOR 0>4 1");
    }

    private static void repairStopsAtOneRequest() {
        Kit.says("If p is alive, SEND(x,p,NEIGHBOR,a) and stop, where a is 1 if A(x) is empty and 0 otherwise.");
        GossipOverlay g = new GossipOverlay(9, 4, 4, 2);
        Kit.see(g, 0, 1, 2, 3, 4, 5, 6, 7);
        g.crash(4);
        Kit.due("node 0, with room left", Kit.node(g, 0), "alive A[5 6 7] P[2 3] E[5 6 7] D0 W[]");
        Kit.due("the pool", Kit.pool(g), "0:NEIGHBOR 0>1 0");
        Kit.fillPool(g, 8, 7);
        g.crash(5);
        Kit.due("node 0, its request lost", Kit.node(g, 0), "alive A[6 7] P[3] E[6 7] D0 W[]");
        Kit.due("lost()", g.lost(), 1);
    }

    private static void repairPassesOverTheDead() {
        Kit.says("Otherwise repeat.");
        for (int dead = 0; dead <= 8; dead++) {
            GossipOverlay g = new GossipOverlay(16, 2, 8, 2);
            Kit.see(g, 0, 1, 2, 3, 4, 5, 6, 7, 8, 9, 10);
            for (int n = 1; n <= dead; n++) {
                g.crash(n);
            }
            Kit.due("P(0), the dead still in it", Kit.passive(g, 0), "1 2 3 4 5 6 7 8");
            g.crash(9);
            String asked = dead == 8 ? "" : "0:NEIGHBOR 0>" + (dead + 1) + " 0";
            Kit.due("the pool, the first " + dead + " dead", Kit.pool(g), asked);
            String left = "2 3 4 5 6 7 8".substring(Math.min(2 * dead, 13));
            Kit.due("P(0), the first " + dead + " dead", Kit.passive(g, 0), left);
        }
    }

    // ---- FORWARD ----

    private static void forwardWithoutPeers() {
        Kit.says("For each p in A(x), in list order, with p != s:");
        GossipOverlay g = new GossipOverlay(4, 2, 2, 2);
        Kit.due("broadcast(0)", g.broadcast(0), 0);
        Kit.due("pending()", g.pending(), 0);
        Kit.due("lost()", g.lost(), 0);
        // Node 2 has a passive peer alone, which is not addressed.
        GossipOverlay passive = new GossipOverlay(6, 2, 2, 2);
        Kit.tell(passive, 5, 2);
        Kit.due("node 2", Kit.node(passive, 2), "alive A[] P[5] E[] D0 W[]");
        passive.broadcast(2);
        Kit.due("pending()", passive.pending(), 0);
    }

    private static void forwardSkipsTheSender() {
        Kit.says("For each p in A(x), in list order, with p != s:");
        GossipOverlay alone = new GossipOverlay(5, 3, 2, 2);
        Kit.link(alone, 0, 1);
        alone.broadcast(0);
        alone.deliver(0);
        Kit.due("the pool, at a node that holds the sender alone", Kit.pool(alone), "");

        GossipOverlay first = new GossipOverlay(5, 3, 2, 2);
        Kit.see(first, 0, 1);
        Kit.see(first, 1, 0, 4, 2);
        first.broadcast(0);
        first.deliver(0);
        Kit.due("the pool, the sender first", Kit.pool(first), "0:GOSSIP 1>4 1, 1:GOSSIP 1>2 1");

        GossipOverlay last = new GossipOverlay(5, 3, 2, 2);
        Kit.see(last, 0, 1);
        Kit.see(last, 1, 4, 2, 0);
        last.broadcast(0);
        last.deliver(0);
        Kit.due("the pool, the sender last", Kit.pool(last), "0:GOSSIP 1>4 1, 1:GOSSIP 1>2 1");

        GossipOverlay none = new GossipOverlay(5, 3, 2, 2);
        Kit.see(none, 0, 1);
        Kit.see(none, 1, 4, 2);
        none.broadcast(0);
        none.deliver(0);
        Kit.due("the pool, the sender not held", Kit.pool(none), "0:GOSSIP 1>4 1, 1:GOSSIP 1>2 1");
    }

    private static void forwardByEagerAndLazy() {
        Kit.says("if p is in E(x), SEND(x,p,GOSSIP,m); otherwise SEND(x,p,IHAVE,m).");
        GossipOverlay g = new GossipOverlay(8, 4, 2, 2);
        Kit.see(g, 0, 4, 2, 1);
        g.broadcast(0);
        Kit.due("the pool, all eager", Kit.pool(g), "0:GOSSIP 0>4 1, 1:GOSSIP 0>2 1, 2:GOSSIP 0>1 1");
        Kit.settle(g);
        Kit.makeLazy(g, 3, 0, 2);
        g.broadcast(0);
        Kit.due("the pool, 2 lazy", Kit.pool(g), "0:GOSSIP 0>4 4, 1:IHAVE 0>2 4, 2:GOSSIP 0>1 4");
        Kit.settle(g);
        Kit.makeLazy(g, 5, 0, 4);
        Kit.makeLazy(g, 6, 0, 1);
        Kit.due("E(0)", Kit.eager(g, 0), "");
        Kit.due("broadcast(0)", g.broadcast(0), 5);
        Kit.due("the pool, all lazy", Kit.pool(g), "0:IHAVE 0>4 32, 1:IHAVE 0>2 32, 2:IHAVE 0>1 32");
    }
}
