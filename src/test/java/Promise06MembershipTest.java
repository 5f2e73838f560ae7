/** Promise 6: deliver, its refusals and the membership messages. */
public final class Promise06MembershipTest {
    public static void main(String[] args) {
        refuses();
        join();
        joinOfAKnownNode();
        joinEvicts();
        joinAnnouncesTheHistory();
        forwardJoinEndsAtALoneNode();
        forwardJoinWalks();
        forwardJoinOfAKnownOrDeadNode();
        link();
        disconnect();
        neighbor();
        reject();
        shuffle();
        shuffleReply();
        sendsIntoAFullPool();
        Kit.end();
    }

    private static void refuses() {
        GossipOverlay g = new GossipOverlay(3, 2, 2, 2);
        g.join(1, 0);
        g.join(2, 0);
        g.drop(0);
        String before = Kit.all(g);
        for (int slot : Kit.NOT_SLOTS) {
            Kit.due("deliver(" + slot + ")", g.deliver(slot), false);
        }
        Kit.due("deliver(0) of a freed slot", g.deliver(0), false);
        Kit.due("deliver(63) of a free slot", g.deliver(63), false);
        Kit.due("the state", Kit.all(g), before);
        Kit.due("deliver(1)", g.deliver(1), true);
        g.drop(0);
        Kit.due("deliver(1) again", g.deliver(1), false);

        Kit.fillPool(g, 1, 0);
        Kit.due("deliver(63) of a full pool", g.deliver(63), true);
    }

    private static void join() {
        GossipOverlay g = new GossipOverlay(5, 4, 2, 2);
        Kit.see(g, 0, 3, 1);
        g.join(4, 2);
        g.join(2, 0);
        g.drop(0);
        Kit.due("deliver(1)", g.deliver(1), true);
        // The slot of the message is free again for what its handling sends.
        Kit.due("the pool", Kit.pool(g), "0:LINK 0>2 0, 1:FORWARDJOIN 0>3 50, 2:FORWARDJOIN 0>1 50");
        Kit.due("node 0", Kit.node(g, 0), "alive A[3 1 2] P[] E[1 2 3] D0 W[]");
        Kit.due("node 2, before the LINK", Kit.node(g, 2), "alive A[] P[] E[] D0 W[]");
    }

    private static void joinOfAKnownNode() {
        GossipOverlay g = new GossipOverlay(4, 2, 2, 2);
        Kit.see(g, 0, 1, 2);
        g.join(1, 0);
        g.deliver(0);
        Kit.due("the pool, no LINK but the walks", Kit.pool(g), "0:FORWARDJOIN 0>2 49");
        Kit.due("node 0", Kit.node(g, 0), "alive A[1 2] P[] E[1 2] D0 W[]");
        Kit.dropAll(g);

        // Node 1 goes passive, then joins again: it leaves the passive view before 2 enters it.
        GossipOverlay back = new GossipOverlay(5, 2, 1, 2);
        Kit.see(back, 0, 1, 2, 3);
        Kit.due("node 0", Kit.node(back, 0), "alive A[2 3] P[1] E[2 3] D0 W[]");
        back.join(1, 0);
        back.deliver(0);
        Kit.due("node 0", Kit.node(back, 0), "alive A[3 1] P[2] E[1 3] D0 W[]");
        Kit.due("the pool", Kit.pool(back), "0:DISCONNECT 0>2 0, 1:LINK 0>1 0, 2:FORWARDJOIN 0>3 49");

        GossipOverlay middle = new GossipOverlay(8, 2, 4, 2);
        Kit.see(middle, 0, 1, 2, 3, 4, 5);
        Kit.due("P(0)", Kit.passive(middle, 0), "1 2 3");
        Kit.see(middle, 0, 2);
        Kit.due("P(0), 2 taken from the middle", Kit.passive(middle, 0), "1 3 4");
        Kit.due("A(0)", Kit.active(middle, 0), "5 2");
    }

    private static void joinEvicts() {
        GossipOverlay g = new GossipOverlay(6, 3, 2, 2);
        Kit.see(g, 0, 1, 2, 3);
        g.join(4, 0);
        g.deliver(0);
        Kit.due("node 0", Kit.node(g, 0), "alive A[2 3 4] P[1] E[2 3 4] D0 W[]");
        Kit.due("the pool", Kit.pool(g),
            "0:DISCONNECT 0>1 0, 1:LINK 0>4 0, 2:FORWARDJOIN 0>2 52, 3:FORWARDJOIN 0>3 52");
        Kit.dropAll(g);
        Kit.see(g, 0, 5, 1);
        Kit.due("node 0", Kit.node(g, 0), "alive A[4 5 1] P[2 3] E[1 4 5] D0 W[]");
        Kit.see(g, 0, 2);
        Kit.due("node 0", Kit.node(g, 0), "alive A[5 1 2] P[3 4] E[1 2 5] D0 W[]");

        GossipOverlay one = new GossipOverlay(5, 2, 1, 2);
        Kit.see(one, 0, 1, 2, 3, 4);
        Kit.due("P(0) of one place, the oldest gone", Kit.passive(one, 0), "2");
    }

    private static void joinAnnouncesTheHistory() {
        GossipOverlay g = new GossipOverlay(4, 2, 2, 2);
        Kit.see(g, 0, 1, 2);
        g.broadcast(3);
        g.broadcast(0);
        Kit.settle(g);
        g.broadcast(0);
        Kit.settle(g);
        g.join(3, 0);
        g.deliver(0);
        Kit.due("the pool", Kit.pool(g),
            "0:DISCONNECT 0>1 0, 1:LINK 0>3 0, 2:IHAVE 0>3 6, 3:FORWARDJOIN 0>2 51");
    }

    private static void forwardJoinEndsAtALoneNode() {
        GossipOverlay g = new GossipOverlay(6, 3, 2, 2);
        Kit.see(g, 0, 1);
        g.join(2, 0);
        g.deliver(0);
        g.drop(0);
        Kit.due("the pool", Kit.pool(g), "1:FORWARDJOIN 0>1 50");
        g.deliver(1);
        Kit.due("node 1, that had no peer", Kit.node(g, 1), "alive A[2] P[] E[2] D0 W[]");
        Kit.due("the pool", Kit.pool(g), "0:LINK 1>2 0");
        Kit.dropAll(g);

        // With one peer a node still takes the joiner in, even if that peer could be asked.
        g.join(3, 0);
        g.deliver(0);
        Kit.due("the pool", Kit.pool(g), "0:LINK 0>3 0, 1:FORWARDJOIN 0>1 51, 2:FORWARDJOIN 0>2 51");
        g.deliver(1);
        Kit.due("node 1, that had one peer", Kit.node(g, 1), "alive A[2 3] P[] E[2 3] D0 W[]");
        Kit.due("the pool", Kit.pool(g), "0:LINK 0>3 0, 1:LINK 1>3 0, 2:FORWARDJOIN 0>2 51");
    }

    /** A ring of walkers with two or more peers each, so that a walk runs its full length. */
    private static GossipOverlay walkers() {
        GossipOverlay g = new GossipOverlay(8, 3, 2, 2);
        Kit.see(g, 0, 1);
        Kit.see(g, 1, 0, 2, 3);
        Kit.see(g, 2, 1, 3, 4);
        Kit.see(g, 3, 2, 4);
        Kit.see(g, 4, 3, 1);
        return g;
    }

    private static void forwardJoinWalks() {
        GossipOverlay g = walkers();
        g.join(7, 0);
        g.deliver(0);
        g.drop(0);
        Kit.due("the walk starts", Kit.pool(g), "1:FORWARDJOIN 0>1 " + (7 | 3 << 4));
        g.deliver(1);
        Kit.due("past the sender", Kit.pool(g), "0:FORWARDJOIN 1>2 " + (7 | 2 << 4));
        Kit.due("node 1", Kit.node(g, 1), "alive A[0 2 3] P[] E[0 2 3] D0 W[]");
        g.deliver(0);
        Kit.due("on to the next", Kit.pool(g), "0:FORWARDJOIN 2>3 " + (7 | 1 << 4));
        Kit.due("node 2", Kit.node(g, 2), "alive A[1 3 4] P[] E[1 3 4] D0 W[]");
        g.deliver(0);
        Kit.due("the last step", Kit.pool(g), "0:FORWARDJOIN 3>4 " + 7);
        Kit.due("node 3, with the joiner passive", Kit.node(g, 3), "alive A[2 4] P[7] E[2 4] D0 W[]");
        g.deliver(0);
        Kit.due("the walk ends", Kit.pool(g), "0:LINK 4>7 0");
        Kit.due("node 4", Kit.node(g, 4), "alive A[3 1 7] P[] E[1 3 7] D0 W[]");
    }

    private static void forwardJoinOfAKnownOrDeadNode() {
        // No peer but the sender and the joiner: the joiner is taken in, which it is already.
        GossipOverlay g = new GossipOverlay(5, 2, 2, 2);
        Kit.see(g, 0, 1);
        Kit.see(g, 1, 0, 2);
        g.join(2, 0);
        g.deliver(0);
        g.drop(0);
        g.deliver(1);
        Kit.due("the pool, nobody left to ask", Kit.pool(g), "");
        Kit.due("node 1", Kit.node(g, 1), "alive A[0 2] P[] E[0 2] D0 W[]");

        // Another peer, behind the sender and the joiner: it is asked.
        GossipOverlay behind = new GossipOverlay(5, 3, 2, 2);
        Kit.see(behind, 0, 1);
        Kit.see(behind, 1, 0, 2, 4);
        behind.join(2, 0);
        behind.deliver(0);
        behind.drop(0);
        behind.deliver(1);
        Kit.due("the pool, past sender and joiner", Kit.pool(behind), "0:FORWARDJOIN 1>4 " + (2 | 2 << 4));

        // At the step PRWL a dead joiner still goes into the passive view, but never into the active one.
        GossipOverlay dead = walkers();
        dead.join(7, 0);
        dead.deliver(0);
        dead.crash(7);
        Kit.due("the walk of a dead node", Kit.pool(dead), "1:FORWARDJOIN 0>1 " + (7 | 3 << 4));
        Kit.deliverNext(dead);
        Kit.deliverNext(dead);
        Kit.deliverNext(dead);
        Kit.due("P(3)", Kit.passive(dead, 3), "7");
        Kit.deliverNext(dead);
        Kit.due("node 4", Kit.node(dead, 4), "alive A[3 1] P[] E[1 3] D0 W[]");
        Kit.due("the pool", Kit.pool(dead), "");
    }

    private static void link() {
        GossipOverlay g = new GossipOverlay(5, 2, 2, 2);
        Kit.see(g, 1, 2, 3);
        g.broadcast(4);
        g.broadcast(1);
        Kit.settle(g);
        g.join(1, 0);
        g.deliver(0);
        Kit.due("the pool", Kit.pool(g), "0:LINK 0>1 0");
        g.deliver(0);
        Kit.due("the pool, no LINK back", Kit.pool(g), "0:DISCONNECT 1>2 0, 1:IHAVE 1>0 2");
        Kit.due("node 1", Kit.node(g, 1), "alive A[3 0] P[2] E[0 3] D2 W[]");
        Kit.settle(g);
        String before = Kit.all(g);
        g.crash(4);
        g.join(1, 0);
        g.deliver(0);
        Kit.due("the pool, no LINK to a known node", Kit.pool(g), "");
        Kit.due("the rest", Kit.all(g), before.replace("4 alive", "4 gone"));
    }

    private static void disconnect() {
        GossipOverlay g = new GossipOverlay(5, 2, 1, 2);
        Kit.see(g, 1, 2, 0, 3);
        Kit.due("node 1", Kit.node(g, 1), "alive A[0 3] P[2] E[0 3] D0 W[]");
        Kit.see(g, 0, 1, 2);
        g.join(4, 0);
        g.deliver(0);
        Kit.due("the pool", Kit.pool(g), "0:DISCONNECT 0>1 0, 1:LINK 0>4 0, 2:FORWARDJOIN 0>2 52");
        g.deliver(0);
        Kit.due("node 1, 2 pushed out of its passive view", Kit.node(g, 1), "alive A[3] P[0] E[3] D0 W[]");
        Kit.due("the pool", Kit.pool(g), "1:LINK 0>4 0, 2:FORWARDJOIN 0>2 52");
        Kit.dropAll(g);

        // From a node that is not in the active view: nothing, not even a passive entry.
        Kit.see(g, 0, 3);
        g.join(1, 0);
        g.deliver(0);
        Kit.due("the pool", Kit.pool(g), "0:DISCONNECT 0>4 0, 1:LINK 0>1 0, 2:FORWARDJOIN 0>3 49");
        g.deliver(0);
        Kit.due("node 4", Kit.node(g, 4), "alive A[] P[] E[] D0 W[]");
    }

    /** Node 0 asks node 1 to be its neighbour, in slot 0: with arg 1 if 0 has no peer left, else 0. */
    private static void ask(GossipOverlay g, boolean alone) {
        Kit.see(g, 0, 6, 1, 2, 3);
        if (alone) {
            g.crash(2);
            g.drop(0);
        } else {
            g.crash(6);
        }
        g.crash(3);
        Kit.due("the pool", Kit.pool(g), "0:NEIGHBOR 0>1 " + (alone ? 1 : 0));
    }

    private static void neighbor() {
        GossipOverlay room = new GossipOverlay(8, 2, 3, 2);
        Kit.see(room, 1, 4);
        ask(room, false);
        room.deliver(0);
        Kit.due("node 1, with room", Kit.node(room, 1), "alive A[4 0] P[] E[0 4] D0 W[]");
        Kit.due("the pool", Kit.pool(room), "0:LINK 1>0 0");

        GossipOverlay full = new GossipOverlay(8, 2, 3, 2);
        Kit.see(full, 1, 4, 5);
        ask(full, false);
        full.deliver(0);
        Kit.due("node 1, without room", Kit.node(full, 1), "alive A[4 5] P[] E[4 5] D0 W[]");
        Kit.due("the pool", Kit.pool(full), "0:REJECT 1>0 0");

        GossipOverlay urgent = new GossipOverlay(8, 2, 3, 2);
        Kit.see(urgent, 1, 4, 5);
        ask(urgent, true);
        urgent.deliver(0);
        Kit.due("node 1, that makes room", Kit.node(urgent, 1), "alive A[5 0] P[4] E[0 5] D0 W[]");
        Kit.due("the pool", Kit.pool(urgent), "0:DISCONNECT 1>4 0, 1:LINK 1>0 0");

        // A full view rejects even a node that it holds, unless the request is urgent.
        GossipOverlay known = new GossipOverlay(8, 2, 3, 2);
        Kit.see(known, 1, 0, 5);
        ask(known, false);
        known.deliver(0);
        Kit.due("node 1, that holds 0", Kit.node(known, 1), "alive A[0 5] P[] E[0 5] D0 W[]");
        Kit.due("the pool", Kit.pool(known), "0:REJECT 1>0 0");

        GossipOverlay knownUrgent = new GossipOverlay(8, 2, 3, 2);
        Kit.see(knownUrgent, 1, 0, 5);
        ask(knownUrgent, true);
        knownUrgent.deliver(0);
        Kit.due("node 1, that holds 0", Kit.node(knownUrgent, 1), "alive A[0 5] P[] E[0 5] D0 W[]");
        Kit.due("the pool", Kit.pool(knownUrgent), "");
    }

    private static void reject() {
        GossipOverlay g = rejected(8);
        Kit.due("node 0", Kit.node(g, 0), "alive A[3] P[2] E[3] D0 W[]");
        g.deliver(0);
        Kit.due("node 0, that asks the next", Kit.node(g, 0), "alive A[3] P[1] E[3] D0 W[]");
        Kit.due("the pool", Kit.pool(g), "0:NEIGHBOR 0>2 0");

        // With its active view full again it keeps the rejecter and asks nobody.
        GossipOverlay full = rejected(8);
        full.join(7, 0);
        full.deliver(1);
        full.deliver(0);
        Kit.due("node 0", Kit.node(full, 0), "alive A[3 7] P[2 1] E[3 7] D0 W[]");
        Kit.due("the pool", Kit.pool(full), "1:LINK 0>7 0, 2:FORWARDJOIN 0>3 55");

        // Passive peers that are dead are passed over, then the rejecter is asked again.
        GossipOverlay again = rejected(8);
        again.crash(2);
        again.deliver(0);
        Kit.due("node 0", Kit.node(again, 0), "alive A[3] P[] E[3] D0 W[]");
        Kit.due("the pool", Kit.pool(again), "0:NEIGHBOR 0>1 0");

        // A passive view that is full loses its oldest entry to the rejecter.
        GossipOverlay one = rejected(1);
        one.join(7, 0);
        one.deliver(1);
        one.join(5, 0);
        one.deliver(3);
        Kit.due("node 0", Kit.node(one, 0), "alive A[7 5] P[3] E[5 7] D0 W[]");
        one.deliver(0);
        Kit.due("node 0", Kit.node(one, 0), "alive A[7 5] P[2] E[5 7] D0 W[]");
    }

    /** A REJECT to node 0 lies in slot 0; node 0 has one active peer, 3. */
    private static GossipOverlay rejected(int passiveCap) {
        GossipOverlay g = new GossipOverlay(8, 2, passiveCap, 2);
        Kit.see(g, 1, 5, 6);
        Kit.see(g, 2, 5, 6);
        Kit.see(g, 0, 1, 2, 3, 4);
        g.crash(4);
        g.deliver(0);
        return g;
    }

    private static void shuffle() {
        GossipOverlay g = new GossipOverlay(16, 2, 3, 2);
        Kit.see(g, 1, 15, 9, 0, 3);
        Kit.due("node 1", Kit.node(g, 1), "alive A[0 3] P[15 9] E[0 3] D0 W[]");
        Kit.see(g, 0, 9, 3, 1, 7);
        Kit.due("node 0", Kit.node(g, 0), "alive A[1 7] P[9 3] E[1 7] D0 W[]");
        g.shuffle(0);
        Kit.due("the pool", Kit.pool(g), "0:SHUFFLE 0>1 " + (1 | 1 << 7 | 1 << 9 | 1 << 3));
        String before = Kit.node(g, 0);
        g.deliver(0);
        // Of 0, 3, 7 and 9 only 7 is new to node 1.
        Kit.due("node 1", Kit.node(g, 1), "alive A[0 3] P[15 9 7] E[0 3] D0 W[]");
        Kit.due("the reply, as the view was before", Kit.pool(g), "0:SHUFFLEREPLY 1>0 " + (1 << 15 | 1 << 9));
        Kit.due("node 0", Kit.node(g, 0), before);

        // More is offered than there is room for: taken in ascending order, the oldest go.
        GossipOverlay many = new GossipOverlay(16, 4, 3, 2);
        Kit.see(many, 1, 12, 13);
        Kit.see(many, 0, 11, 4, 1, 14, 6, 2);
        Kit.due("node 0", Kit.node(many, 0), "alive A[1 14 6 2] P[11 4] E[1 2 6 14] D0 W[]");
        many.shuffle(0);
        many.deliver(0);
        Kit.due("P(1) of 0 2 4 6 11 14", Kit.passive(many, 1), "6 11 14");
        Kit.due("the reply", Kit.pool(many), "0:SHUFFLEREPLY 1>0 0");
    }

    private static void shuffleReply() {
        GossipOverlay g = new GossipOverlay(16, 2, 3, 2);
        Kit.see(g, 1, 8, 0, 5, 12, 2);
        Kit.due("P(1)", Kit.passive(g, 1), "8 0 5");
        Kit.see(g, 0, 10, 11, 1, 8);
        Kit.due("P(0)", Kit.passive(g, 0), "10 11");
        g.shuffle(0);
        g.deliver(0);
        Kit.due("the reply", Kit.pool(g), "0:SHUFFLEREPLY 1>0 " + (1 << 8 | 1 | 1 << 5));
        g.deliver(0);
        // Node 0 itself and its active peer 8 are not taken.
        Kit.due("node 0", Kit.node(g, 0), "alive A[1 8] P[10 11 5] E[1 8] D0 W[]");
        Kit.due("the pool", Kit.pool(g), "");
    }

    private static void sendsIntoAFullPool() {
        GossipOverlay g = new GossipOverlay(5, 2, 2, 2);
        Kit.see(g, 0, 1, 2);
        Kit.fillPool(g, 3, 0);
        g.deliver(20);
        // Of DISCONNECT, LINK and FORWARDJOIN the first has the freed slot.
        Kit.due("message(20)", g.message(20), 4 << 24 | 1 << 16);
        Kit.due("lost()", g.lost(), 2);
        Kit.due("pending()", g.pending(), 64);
        Kit.due("node 0", Kit.node(g, 0), "alive A[2 3] P[1] E[2 3] D0 W[]");
    }
}
