/** Promise 6, the boundary cases of the broadcast messages. */
public final class Promise06BroadcastBoundaryTest {
    public static void main(String[] args) {
        gossipOfTheFirstAndTheLastId();
        duplicateFromAnEagerLazyOrNoPeer();
        duplicateInAFullPool();
        freshGossipEndsItsOwnWaitAlone();
        freshGossipFromAnEagerLazyOrNoPeer();
        freshGossipGoesOnToTheOthers();
        ihaveOfNoneAndOfAll();
        ihaveOfDeliveredIds();
        ihaveWhileTheTimerRuns();
        ihaveAfterTheTimerRanOut();
        graftFromAnEagerLazyOrNoPeer();
        graftOfTheLastId();
        graftInAFullPool();
        pruneFromAnEagerLazyOrNoPeer();
        Kit.end();
    }

    // ---- GOSSIP ----

    private static void gossipOfTheFirstAndTheLastId() {
        Kit.says("Let g be the ids in a that are not in D(y).");
        GossipOverlay g = new GossipOverlay(2, 2, 2, 2);
        Kit.see(g, 0, 1);
        for (int b = 0; b < 16; b++) {
            g.broadcast(0);
        }
        // The last first: each is looked at by its own bit.
        g.deliver(15);
        Kit.due("delivered(1)", g.delivered(1), 32768);
        g.deliver(0);
        Kit.due("delivered(1)", g.delivered(1), 32769);
        for (int slot = 1; slot < 15; slot++) {
            g.deliver(slot);
        }
        Kit.due("delivered(1)", g.delivered(1), 65535);
        Kit.due("the pool, no duplicate in all this", Kit.pool(g), "");
    }

    /** Node 1, whose peers are given, has ids 0 and 1 from 3; node 0 pushes them to it too, in slots 1 and 3. */
    private static GossipOverlay twice(int... peersOf1) {
        GossipOverlay g = new GossipOverlay(8, 2, 2, 2);
        Kit.see(g, 0, 1);
        Kit.see(g, 3, 1, 0);
        Kit.see(g, 1, peersOf1);
        g.broadcast(3);
        g.broadcast(3);
        g.deliver(1);
        g.deliver(3);
        Kit.due("the pool", Kit.pool(g), "0:GOSSIP 3>1 1, 1:GOSSIP 0>1 1, 2:GOSSIP 3>1 2, 3:GOSSIP 0>1 2");
        g.deliver(0);
        g.deliver(2);
        return g;
    }

    private static void duplicateFromAnEagerLazyOrNoPeer() {
        Kit.says("If g is empty: x is removed from E(y) if it is there, and SEND(y,x,PRUNE,0).");
        GossipOverlay peer = twice(0);
        Kit.due("node 1", Kit.node(peer, 1), "alive A[0] P[] E[0] D3 W[]");
        Kit.due("the pool", Kit.pool(peer), "0:GOSSIP 1>0 1, 1:GOSSIP 0>1 1, 2:GOSSIP 1>0 2, 3:GOSSIP 0>1 2");
        peer.deliver(1);
        Kit.due("node 1, 0 lazy now", Kit.node(peer, 1), "alive A[0] P[] E[] D3 W[]");
        Kit.due("message(1), a PRUNE 1>0", peer.message(1), 0x0c100000);
        peer.deliver(3);
        Kit.due("node 1, 0 lazy as before", Kit.node(peer, 1), "alive A[0] P[] E[] D3 W[]");
        Kit.due("message(3), a PRUNE 1>0", peer.message(3), 0x0c100000);

        GossipOverlay last = new GossipOverlay(16, 2, 2, 2);
        Kit.see(last, 15, 7);
        Kit.see(last, 3, 7, 15);
        Kit.see(last, 7, 15, 0);
        last.broadcast(3);
        last.deliver(1);
        last.deliver(0);
        Kit.due("the pool", Kit.pool(last), "0:GOSSIP 7>15 1, 1:GOSSIP 15>7 1, 2:GOSSIP 7>0 1");
        last.deliver(1);
        Kit.due("node 7, 15 lazy now", Kit.node(last, 7), "alive A[15 0] P[] E[0] D1 W[]");
        Kit.due("message(1), a PRUNE 7>15", last.message(1), 0x0c7f0000);

        GossipOverlay other = twice(2);
        String before = Kit.node(other, 1);
        other.deliver(1);
        Kit.due("node 1, that holds 2 alone", Kit.node(other, 1), before);
        Kit.due("message(1), a PRUNE 1>0", other.message(1), 0x0c100000);

        GossipOverlay none = twice();
        none.deliver(1);
        Kit.due("node 1, that holds nobody", Kit.node(none, 1), "alive A[] P[] E[] D3 W[]");
        Kit.due("the pool", Kit.pool(none), "0:PRUNE 1>0 0, 3:GOSSIP 0>1 2");

        GossipOverlay passive = twice(0, 4, 5);
        before = Kit.node(passive, 1);
        Kit.due("node 1", before, "alive A[4 5] P[0] E[4 5] D3 W[]");
        passive.deliver(1);
        Kit.due("node 1, that knows 0 passively", Kit.node(passive, 1), before);
    }

    private static void duplicateInAFullPool() {
        Kit.says("If g is empty: x is removed from E(y) if it is there, and SEND(y,x,PRUNE,0).");
        GossipOverlay g = twice(0);
        Kit.fillPool(g, 6, 7);
        g.deliver(3);
        Kit.due("message(3), a PRUNE 1>0", g.message(3), 0x0c100000);
        Kit.due("pending()", g.pending(), 64);
        Kit.due("lost()", g.lost(), 0);
    }

    private static void freshGossipEndsItsOwnWaitAlone() {
        Kit.says("g is added to D(y); for each b in g, ANN(y,b) is emptied and T(y,b) becomes 0;");
        // Node 1 hears of id 0 from 0 and 3, and a tick later of id 1 from 2.
        GossipOverlay g = new GossipOverlay(5, 3, 2, 2);
        Kit.see(g, 0, 3);
        g.broadcast(0);
        Kit.settle(g);
        g.join(1, 0);
        g.deliver(0);
        g.drop(2);
        Kit.settle(g);
        g.join(1, 3);
        Kit.settle(g);
        g.tick();
        g.broadcast(2);
        g.join(1, 2);
        Kit.settle(g);
        Kit.due("node 1", Kit.node(g, 1), "alive A[0 3 2] P[] E[0 2 3] D0 W[0:9/1 1:4/2]");
        Kit.due("tick()", g.tick(), 1);
        Kit.due("W(1)", Kit.waits(g, 1), "0:8/2 1:4/1");
        g.deliver(0);
        Kit.due("the pool", Kit.pool(g), "0:GOSSIP 0>1 1");
        g.deliver(0);
        Kit.due("node 1", Kit.node(g, 1), "alive A[0 3 2] P[] E[0 2 3] D1 W[1:4/1]");
    }

    private static void freshGossipFromAnEagerLazyOrNoPeer() {
        Kit.says("if x is in A(y), x is added to E(y);");
        // 0 is lazy at node 1 after a duplicate, and has pushed id 2 before it knows.
        GossipOverlay lazy = twice(0);
        lazy.broadcast(0);
        Kit.due("message(4), a GOSSIP 0>1", lazy.message(4), 0x09010004);
        lazy.deliver(1);
        Kit.due("E(1)", Kit.eager(lazy, 1), "");
        lazy.deliver(4);
        Kit.due("node 1, 0 eager again", Kit.node(lazy, 1), "alive A[0] P[] E[0] D7 W[]");

        GossipOverlay eager = twice(0);
        eager.broadcast(0);
        eager.deliver(4);
        Kit.due("node 1, 0 eager as before", Kit.node(eager, 1), "alive A[0] P[] E[0] D7 W[]");

        GossipOverlay none = twice();
        none.broadcast(0);
        none.deliver(0);
        Kit.due("node 1, that holds nobody", Kit.node(none, 1), "alive A[] P[] E[] D7 W[]");

        GossipOverlay passive = new GossipOverlay(8, 2, 2, 2);
        Kit.see(passive, 0, 1);
        Kit.see(passive, 1, 0, 4, 5);
        passive.broadcast(0);
        passive.deliver(0);
        Kit.due("node 1, that knows 0 passively", Kit.node(passive, 1), "alive A[4 5] P[0] E[4 5] D1 W[]");
    }

    private static void freshGossipGoesOnToTheOthers() {
        Kit.says("then FORWARD(y,x,mask of g).");
        GossipOverlay g = new GossipOverlay(8, 4, 2, 2);
        Kit.see(g, 0, 1);
        Kit.see(g, 1, 7, 0, 5);
        for (int b = 0; b < 15; b++) {
            g.broadcast(6);
        }
        g.broadcast(0);
        g.deliver(0);
        Kit.due("the pool, of the last id", Kit.pool(g), "0:GOSSIP 1>7 32768, 1:GOSSIP 1>5 32768");

        GossipOverlay full = new GossipOverlay(8, 4, 2, 2);
        Kit.see(full, 0, 1);
        Kit.see(full, 1, 7, 0, 5, 6);
        full.broadcast(0);
        Kit.fillPool(full, 2, 3);
        full.deliver(0);
        Kit.due("message(0), a GOSSIP 1>7", full.message(0), 0x09170001);
        Kit.due("lost(), two GOSSIPs", full.lost(), 2);
        Kit.due("delivered(1)", full.delivered(1), 1);
    }

    // ---- IHAVE ----

    /** Node 1 has made the first few of the broadcasts, and an IHAVE of all sixteen lies in slot 1 for it from 0. */
    private static GossipOverlay announced(int ofItsOwn) {
        GossipOverlay g = new GossipOverlay(4, 2, 2, 5);
        Kit.see(g, 1, 0);
        for (int b = 0; b < 16; b++) {
            g.broadcast(b < ofItsOwn ? 1 : 0);
            Kit.settle(g);
        }
        g.join(1, 0);
        g.deliver(0);
        Kit.due("the pool", Kit.pool(g), "0:LINK 0>1 0, 1:IHAVE 0>1 65535");
        return g;
    }

    private static String allWaiting(int from) {
        StringBuilder all = new StringBuilder();
        for (int b = from; b < 16; b++) {
            all.append(b == from ? "" : " ").append(b).append(":1/5");
        }
        return all.toString();
    }

    private static void ihaveOfNoneAndOfAll() {
        Kit.says("For each id b that is in a and not in D(y), ascending: x is added to ANN(y,b), "
            + "and if T(y,b)==0, T(y,b) becomes TIMEOUT.");
        GossipOverlay all = announced(0);
        all.deliver(1);
        Kit.due("W(1), all sixteen", Kit.waits(all, 1), allWaiting(0));
        Kit.due("the pool, nothing sent", Kit.pool(all), "0:LINK 0>1 0");
        GossipOverlay last = announced(15);
        last.deliver(1);
        Kit.due("W(1), the last", Kit.waits(last, 1), "15:1/5");
        // The announcer with the greatest number, and one that is not held.
        GossipOverlay far = new GossipOverlay(16, 2, 2, 1);
        far.broadcast(15);
        far.join(0, 15);
        far.deliver(0);
        far.drop(0);
        far.deliver(1);
        Kit.due("node 0", Kit.node(far, 0), "alive A[] P[] E[] D0 W[0:32768/1]");
    }

    private static void ihaveOfDeliveredIds() {
        Kit.says("Ids already in D(y) are ignored.");
        GossipOverlay g = announced(16);
        String before = Kit.node(g, 1);
        g.deliver(1);
        Kit.due("node 1, that has all", Kit.node(g, 1), before);
        Kit.due("tick()", g.tick(), 0);
        for (int own = 1; own < 16; own++) {
            GossipOverlay some = announced(own);
            some.deliver(1);
            Kit.due("W(1), that has " + own, Kit.waits(some, 1), allWaiting(own));
            Kit.due("delivered(1)", some.delivered(1), (1 << own) - 1);
        }
    }

    private static void ihaveWhileTheTimerRuns() {
        Kit.says("A timer that is already running is not restarted.");
        for (int ticks = 1; ticks <= 7; ticks++) {
            GossipOverlay g = new GossipOverlay(8, 2, 2, 8);
            g.broadcast(0);
            Kit.announce(g, 0, 1);
            Kit.due("W(1)", Kit.waits(g, 1), "0:1/8");
            for (int i = 0; i < ticks; i++) {
                g.tick();
            }
            // 0 has let 1 go when it announces a second time, to the same node by the same announcer.
            g.join(2, 0);
            g.deliver(0);
            Kit.dropAll(g);
            g.join(3, 0);
            g.deliver(0);
            Kit.dropAll(g);
            Kit.settle(g);
            Kit.due("A(0)", Kit.active(g, 0), "2 3");
            Kit.announce(g, 0, 1);
            Kit.due("W(1) after " + ticks + " ticks", Kit.waits(g, 1), "0:1/" + (8 - ticks));
        }
        // By another announcer.
        GossipOverlay other = new GossipOverlay(8, 2, 2, 8);
        Kit.see(other, 0, 2);
        other.broadcast(0);
        Kit.settle(other);
        Kit.announce(other, 0, 1);
        for (int i = 0; i < 7; i++) {
            other.tick();
        }
        other.join(1, 2);
        Kit.settle(other);
        Kit.due("W(1)", Kit.waits(other, 1), "0:5/1");
    }

    private static void ihaveAfterTheTimerRanOut() {
        Kit.says("and if T(y,b)==0, T(y,b) becomes TIMEOUT.");
        GossipOverlay g = new GossipOverlay(8, 2, 2, 1);
        Kit.see(g, 0, 2);
        g.broadcast(0);
        Kit.settle(g);
        Kit.announce(g, 0, 1);
        Kit.due("tick()", g.tick(), 1);
        Kit.due("W(1), nobody left to ask", Kit.waits(g, 1), "");
        g.join(1, 2);
        g.deliver(1);
        g.drop(1);
        Kit.due("the pool", Kit.pool(g), "0:GRAFT 1>0 1, 2:IHAVE 2>1 1");
        g.deliver(2);
        Kit.due("W(1), started anew", Kit.waits(g, 1), "0:4/1");
    }

    // ---- GRAFT ----

    /** A GRAFT of id 0 by node 1 lies in slot 0 for node 0, which holds 1. */
    private static GossipOverlay grafting(int activeCap) {
        GossipOverlay g = new GossipOverlay(8, activeCap, 2, 1);
        g.broadcast(0);
        Kit.announce(g, 0, 1);
        g.tick();
        Kit.due("the pool", Kit.pool(g), "0:GRAFT 1>0 1");
        return g;
    }

    private static void graftFromAnEagerLazyOrNoPeer() {
        Kit.says("If x is in A(y), x is added to E(y).");
        GossipOverlay eager = grafting(2);
        eager.deliver(0);
        Kit.due("node 0, 1 eager as before", Kit.node(eager, 0), "alive A[1] P[] E[1] D1 W[]");
        Kit.due("the pool", Kit.pool(eager), "0:GOSSIP 0>1 1");

        GossipOverlay gone = grafting(2);
        for (int n = 2; n <= 5; n++) {
            gone.join(n, 0);
            gone.deliver(1);
            Kit.dropAll(gone);
        }
        Kit.due("node 0, that knows 1 no more", Kit.node(gone, 0), "alive A[4 5] P[2 3] E[4 5] D1 W[]");
        gone.deliver(0);
        Kit.due("node 0, as before", Kit.node(gone, 0), "alive A[4 5] P[2 3] E[4 5] D1 W[]");
        Kit.due("message(0), a GOSSIP 0>1 all the same", gone.message(0), 0x09010001);

        // 1 is made lazy at 0, hears of id 1 from it, and grafts.
        GossipOverlay lazy = new GossipOverlay(8, 2, 2, 1);
        Kit.see(lazy, 0, 1);
        Kit.makeLazy(lazy, 3, 0, 1);
        lazy.broadcast(0);
        Kit.due("the pool", Kit.pool(lazy), "0:IHAVE 0>1 2");
        lazy.deliver(0);
        lazy.tick();
        Kit.due("the pool", Kit.pool(lazy), "0:GRAFT 1>0 2");
        Kit.due("E(0)", Kit.eager(lazy, 0), "");
        lazy.deliver(0);
        Kit.due("node 0, 1 eager", Kit.node(lazy, 0), "alive A[1] P[] E[1] D3 W[]");
    }

    private static void graftOfTheLastId() {
        Kit.says("Let g be the ids in both a and D(y).");
        GossipOverlay g = new GossipOverlay(8, 2, 2, 1);
        for (int b = 0; b < 16; b++) {
            g.broadcast(0);
        }
        Kit.announce(g, 0, 1);
        g.tick();
        Kit.due("message(15), a GRAFT of id 15", g.message(15), 0x0b108000);
        g.deliver(15);
        // Of all that 0 has, the one that was asked for.
        Kit.due("message(15), a GOSSIP of id 15", g.message(15), 0x09018000);
        g.deliver(0);
        Kit.due("message(0), a GOSSIP of id 0", g.message(0), 0x09010001);
    }

    private static void graftInAFullPool() {
        // An empty g does not come about: only who has an id announces it, and nobody loses one.
        Kit.says("If g is not empty, SEND(y,x,GOSSIP,mask of g).");
        GossipOverlay g = grafting(2);
        Kit.fillPool(g, 6, 7);
        g.deliver(0);
        Kit.due("message(0), a GOSSIP 0>1", g.message(0), 0x09010001);
        Kit.due("lost()", g.lost(), 0);
    }

    // ---- PRUNE ----

    private static void pruneFromAnEagerLazyOrNoPeer() {
        Kit.says("PRUNE: x is removed from E(y) if it is there.");
        GossipOverlay g = twice();
        g.deliver(1);
        g.deliver(3);
        Kit.due("the pool", Kit.pool(g), "0:PRUNE 1>0 0, 1:PRUNE 1>0 0");
        Kit.due("node 0", Kit.node(g, 0), "alive A[1] P[] E[1] D3 W[]");
        g.deliver(0);
        Kit.due("node 0, 1 lazy and held", Kit.node(g, 0), "alive A[1] P[] E[] D3 W[]");
        g.deliver(1);
        Kit.due("node 0, 1 lazy as before", Kit.node(g, 0), "alive A[1] P[] E[] D3 W[]");
        Kit.due("the pool", Kit.pool(g), "");

        GossipOverlay gone = twice();
        gone.deliver(1);
        gone.deliver(3);
        for (int n = 4; n <= 7; n++) {
            gone.join(n, 0);
            gone.deliver(2);
            Kit.dropAll(gone);
        }
        Kit.due("node 0, that knows 1 no more", Kit.node(gone, 0), "alive A[6 7] P[4 5] E[6 7] D3 W[]");
        gone.deliver(0);
        Kit.due("node 0, as before", Kit.node(gone, 0), "alive A[6 7] P[4 5] E[6 7] D3 W[]");
    }
}
