/** Promise 6, the boundary cases of the membership messages. */
public final class Promise06MembershipBoundaryTest {
    public static void main(String[] args) {
        joinAtALoneNode();
        joinSendsWalksToTheOthers();
        forwardJoinNamesTheLastNode();
        forwardJoinAtAnEndOrALoneNode();
        forwardJoinLeavesAPassiveEntryAtPrwl();
        forwardJoinPicksTheFirstOther();
        forwardJoinCountsDown();
        forwardJoinWithNobodyElse();
        linkAtARoomyOrFullView();
        disconnectOfAPeer();
        disconnectOfNoPeer();
        neighborWithRoomOrUrgent();
        neighborAtAFullView();
        reject();
        shuffleReplyTellsTheViewBefore();
        shuffleOffersAscending();
        shuffleAnswersInAFullPool();
        shuffleReply();
        Kit.end();
    }

    // ---- JOIN ----

    private static void joinAtALoneNode() {
        Kit.says("JOIN: ADDA(y,x,true).");
        GossipOverlay g = new GossipOverlay(16, 2, 2, 2);
        g.join(15, 0);
        g.deliver(0);
        Kit.due("node 0", Kit.node(g, 0), "alive A[15] P[] E[15] D0 W[]");
        Kit.due("the pool, no walk", Kit.pool(g), "0:LINK 0>15 0");
        g.join(0, 15);
        g.deliver(1);
        Kit.due("node 15", Kit.node(g, 15), "alive A[0] P[] E[0] D0 W[]");
    }

    private static void joinSendsWalksToTheOthers() {
        Kit.says("Then, for each p in A(y), in list order, with p != x: SEND(y,p,FORWARDJOIN, x|(ARWL<<4)).");
        // To the whole of a view that becomes full, in list order.
        GossipOverlay g = new GossipOverlay(16, 4, 2, 2);
        Kit.see(g, 0, 9, 3, 5);
        g.join(15, 0);
        g.deliver(0);
        Kit.due("the pool", Kit.pool(g),
            "0:LINK 0>15 0, 1:FORWARDJOIN 0>9 63, 2:FORWARDJOIN 0>3 63, 3:FORWARDJOIN 0>5 63");
        Kit.dropAll(g);
        // Not to the one that was put out of a full view.
        g.join(1, 0);
        g.deliver(0);
        Kit.due("the pool", Kit.pool(g), "0:DISCONNECT 0>9 0, 1:LINK 0>1 0, 2:FORWARDJOIN 0>3 49, "
            + "3:FORWARDJOIN 0>5 49, 4:FORWARDJOIN 0>15 49");
        Kit.dropAll(g);
        // From one that is held already, in the middle of the list.
        g.join(15, 0);
        g.deliver(0);
        Kit.due("the pool", Kit.pool(g), "0:FORWARDJOIN 0>3 63, 1:FORWARDJOIN 0>5 63, 2:FORWARDJOIN 0>1 63");
        // Of node 0.
        GossipOverlay zero = new GossipOverlay(4, 2, 2, 2);
        Kit.see(zero, 1, 2);
        zero.join(0, 1);
        zero.deliver(0);
        Kit.due("the pool", Kit.pool(zero), "0:LINK 1>0 0, 1:FORWARDJOIN 1>2 48");
    }

    // ---- FORWARDJOIN ----

    /** A walk for 9 has come by 0, 1 and 2, and lies in slot 0 on its way to 3, with t = 1. */
    private static GossipOverlay walk(int activeCap, int[] peersOf3, int[] peersOf4) {
        GossipOverlay g = new GossipOverlay(16, activeCap, 2, 2);
        Kit.see(g, 3, peersOf3);
        Kit.see(g, 4, peersOf4);
        startWalk(g);
        return g;
    }

    private static void startWalk(GossipOverlay g) {
        Kit.see(g, 0, 1);
        Kit.see(g, 1, 0, 2);
        Kit.see(g, 2, 1, 3);
        g.join(9, 0);
        g.deliver(0);
        g.drop(0);
        Kit.deliverNext(g);
        Kit.deliverNext(g);
        Kit.due("the pool", Kit.pool(g), "0:FORWARDJOIN 2>3 25");
    }

    private static GossipOverlay walkTo3(int activeCap, int... peersOf3) {
        return walk(activeCap, peersOf3, new int[0]);
    }

    /** The same, one step on: in slot 0 on its way from 3 to 4, with t = 0. */
    private static GossipOverlay walkTo4(int activeCap, int... peersOf4) {
        GossipOverlay g = walk(activeCap, new int[] {2, 4}, peersOf4);
        g.deliver(0);
        Kit.due("the pool", Kit.pool(g), "0:FORWARDJOIN 3>4 9");
        return g;
    }

    /** The walk's message in slot 0 is delivered, after which the node and the pool are as told. */
    private static void arrives(GossipOverlay g, int node, String after, String pool) {
        g.deliver(0);
        Kit.due("node " + node, Kit.node(g, node), after);
        Kit.due("the pool", Kit.pool(g), pool);
    }

    private static void forwardJoinNamesTheLastNode() {
        Kit.says("Let w = a&15 and t = (a>>4)&15.");
        for (int joiner : new int[] {0, 15}) {
            GossipOverlay g = new GossipOverlay(16, 2, 2, 2);
            Kit.see(g, 7, 8);
            g.join(joiner, 7);
            g.deliver(0);
            g.drop(0);
            Kit.due("the pool", Kit.pool(g), "1:FORWARDJOIN 7>8 " + (joiner + 48));
            g.deliver(1);
            Kit.due("A(8)", Kit.active(g, 8), "" + joiner);
        }
    }

    private static void forwardJoinAtAnEndOrALoneNode() {
        Kit.says("If t==0 or |A(y)| <= 1: ADDA(y,w,true).");
        arrives(walkTo3(3), 3, "alive A[9] P[] E[9] D0 W[]", "0:LINK 3>9 0");
        arrives(walkTo3(3, 2), 3, "alive A[2 9] P[] E[2 9] D0 W[]", "0:LINK 3>9 0");
        arrives(walkTo3(3, 5), 3, "alive A[5 9] P[] E[5 9] D0 W[]", "0:LINK 3>9 0");
        arrives(walkTo3(3, 9), 3, "alive A[9] P[] E[9] D0 W[]", "");
        // No passive entry is made for it on the way, for which a full passive view would lose one.
        for (int peers = 0; peers <= 1; peers++) {
            GossipOverlay g = new GossipOverlay(16, 3, 2, 2);
            Kit.tell(g, 14, 3, 13);
            if (peers == 1) {
                Kit.see(g, 3, 2);
            }
            startWalk(g);
            arrives(g, 3, peers == 0 ? "alive A[9] P[13 14] E[9] D0 W[]" : "alive A[2 9] P[13 14] E[2 9] D0 W[]",
                "0:LINK 3>9 0");
        }
        // With two peers and t above 0 it is not taken in.
        arrives(walkTo3(3, 2, 5), 3, "alive A[2 5] P[9] E[2 5] D0 W[]", "0:FORWARDJOIN 3>5 9");
        // With t = 0 it is, by however many peers.
        arrives(walkTo4(3), 4, "alive A[9] P[] E[9] D0 W[]", "0:LINK 4>9 0");
        arrives(walkTo4(3, 3, 5), 4, "alive A[3 5 9] P[] E[3 5 9] D0 W[]", "0:LINK 4>9 0");
        arrives(walkTo4(4, 3, 5, 6), 4, "alive A[3 5 6 9] P[] E[3 5 6 9] D0 W[]", "0:LINK 4>9 0");
        arrives(walkTo4(2, 3, 5), 4, "alive A[5 9] P[3] E[5 9] D0 W[]", "0:DISCONNECT 4>3 0, 1:LINK 4>9 0");
    }

    private static void forwardJoinLeavesAPassiveEntryAtPrwl() {
        Kit.says("Else: if t==PRWL, ADDP(y,w).");
        GossipOverlay g = walkTo4(3, 3, 5);
        Kit.due("P(1), passed with t = 3", Kit.passive(g, 1), "");
        Kit.due("P(2), passed with t = 2", Kit.passive(g, 2), "");
        Kit.due("P(3), passed with t = 1", Kit.passive(g, 3), "9");
        g.deliver(0);
        Kit.due("P(4), reached with t = 0", Kit.passive(g, 4), "");

        arrives(walkTo3(2, 10, 11, 2, 5), 3, "alive A[2 5] P[11 9] E[2 5] D0 W[]", "0:FORWARDJOIN 3>5 9");
        arrives(walkTo3(2, 9, 2, 5), 3, "alive A[2 5] P[9] E[2 5] D0 W[]", "0:FORWARDJOIN 3>5 9");
        arrives(walkTo3(2, 9, 11, 2, 5), 3, "alive A[2 5] P[9 11] E[2 5] D0 W[]", "0:FORWARDJOIN 3>5 9");
        arrives(walkTo3(3, 9, 2, 5), 3, "alive A[9 2 5] P[] E[2 5 9] D0 W[]", "0:FORWARDJOIN 3>5 9");

        GossipOverlay dead = walkTo3(3, 2, 5);
        dead.crash(9);
        arrives(dead, 3, "alive A[2 5] P[9] E[2 5] D0 W[]", "0:FORWARDJOIN 3>5 9");
    }

    private static void forwardJoinPicksTheFirstOther() {
        Kit.says("Then let q be the first p in A(y), in list order, with p != x and p != w.");
        arrives(walkTo3(4, 7, 2), 3, "alive A[7 2] P[9] E[2 7] D0 W[]", "0:FORWARDJOIN 3>7 9");
        arrives(walkTo3(4, 2, 7), 3, "alive A[2 7] P[9] E[2 7] D0 W[]", "0:FORWARDJOIN 3>7 9");
        arrives(walkTo3(4, 9, 7), 3, "alive A[9 7] P[] E[7 9] D0 W[]", "0:FORWARDJOIN 3>7 9");
        arrives(walkTo3(4, 2, 9, 7, 6), 3, "alive A[2 9 7 6] P[] E[2 6 7 9] D0 W[]", "0:FORWARDJOIN 3>7 9");
        arrives(walkTo3(4, 9, 2, 6, 7), 3, "alive A[9 2 6 7] P[] E[2 6 7 9] D0 W[]", "0:FORWARDJOIN 3>6 9");
        // The sender need not be a peer.
        arrives(walkTo3(4, 7, 6), 3, "alive A[7 6] P[9] E[6 7] D0 W[]", "0:FORWARDJOIN 3>7 9");
    }

    private static void forwardJoinCountsDown() {
        Kit.says("If q exists, SEND(y,q,FORWARDJOIN, w|((t-1)<<4)); otherwise ADDA(y,w,true).");
        GossipOverlay g = new GossipOverlay(16, 3, 2, 2);
        Kit.see(g, 0, 1);
        Kit.see(g, 1, 0, 2);
        Kit.see(g, 2, 1, 3);
        Kit.see(g, 3, 2, 4);
        Kit.see(g, 4, 3, 5);
        g.join(15, 0);
        g.deliver(0);
        g.drop(0);
        Kit.due("the pool, t = 3", Kit.pool(g), "1:FORWARDJOIN 0>1 63");
        g.deliver(1);
        Kit.due("the pool, t = 2", Kit.pool(g), "0:FORWARDJOIN 1>2 47");
        g.deliver(0);
        Kit.due("the pool, t = 1", Kit.pool(g), "0:FORWARDJOIN 2>3 31");
        g.deliver(0);
        Kit.due("the pool, t = 0", Kit.pool(g), "0:FORWARDJOIN 3>4 15");
        g.deliver(0);
        Kit.due("the pool, the walk ended", Kit.pool(g), "0:LINK 4>15 0");
    }

    private static void forwardJoinWithNobodyElse() {
        Kit.says("If q exists, SEND(y,q,FORWARDJOIN, w|((t-1)<<4)); otherwise ADDA(y,w,true).");
        // Only the sender and the joiner are held, so the joiner is in A(y) already and ADDA does nothing.
        arrives(walkTo3(2, 2, 9), 3, "alive A[2 9] P[] E[2 9] D0 W[]", "");
        arrives(walkTo3(2, 9, 2), 3, "alive A[9 2] P[] E[2 9] D0 W[]", "");
        arrives(walkTo3(4, 9, 2), 3, "alive A[9 2] P[] E[2 9] D0 W[]", "");
    }

    // ---- LINK ----

    private static void linkAtARoomyOrFullView() {
        Kit.says("LINK: ADDA(y,x,false).");
        String[] after = {"alive A[0] P[] E[0] D0 W[]", "alive A[7 0] P[] E[0 7] D0 W[]",
            "alive A[6 0] P[7] E[0 6] D0 W[]"};
        String[] pool = {"", "", "0:DISCONNECT 1>7 0"};
        for (int peers = 0; peers <= 2; peers++) {
            GossipOverlay g = new GossipOverlay(8, 2, 2, 2);
            for (int i = 0; i < peers; i++) {
                Kit.see(g, 1, 7 - i);
            }
            g.join(1, 0);
            g.deliver(0);
            Kit.due("the pool", Kit.pool(g), "0:LINK 0>1 0");
            arrives(g, 1, after[peers], pool[peers]);
        }
    }

    // ---- DISCONNECT ----

    /** A DISCONNECT from 1 lies in slot 0 for node 0, whose peers are given. */
    private static GossipOverlay disconnected(int passiveCap, int... peers) {
        GossipOverlay g = new GossipOverlay(8, 2, passiveCap, 2);
        Kit.see(g, 1, 0, 4);
        Kit.see(g, 0, peers);
        g.join(5, 1);
        g.deliver(0);
        g.drop(1);
        g.drop(2);
        Kit.due("the pool", Kit.pool(g), "0:DISCONNECT 1>0 0");
        return g;
    }

    private static void disconnectOfAPeer() {
        Kit.says("If x is in A(y), x is removed from A(y) and from E(y), then ADDP(y,x).");
        arrives(disconnected(2, 1), 0, "alive A[] P[1] E[] D0 W[]", "");
        arrives(disconnected(2, 1, 2), 0, "alive A[2] P[1] E[2] D0 W[]", "");
        arrives(disconnected(2, 2, 1), 0, "alive A[2] P[1] E[2] D0 W[]", "");
        // No request follows, though there is room and someone to ask.
        arrives(disconnected(2, 6, 1, 2), 0, "alive A[2] P[6 1] E[2] D0 W[]", "");
        arrives(disconnected(1, 6, 1, 2), 0, "alive A[2] P[1] E[2] D0 W[]", "");
        arrives(disconnected(2, 7, 6, 1, 2), 0, "alive A[2] P[6 1] E[2] D0 W[]", "");

        GossipOverlay lazy = new GossipOverlay(8, 2, 2, 2);
        Kit.see(lazy, 1, 0, 4);
        Kit.see(lazy, 0, 1, 2);
        Kit.makeLazy(lazy, 3, 0, 1);
        Kit.due("E(0), 1 lazy", Kit.eager(lazy, 0), "2");
        lazy.join(5, 1);
        lazy.deliver(0);
        Kit.due("message(0), a DISCONNECT 1>0", lazy.message(0), 0x04100000);
        lazy.deliver(0);
        Kit.due("node 0", Kit.node(lazy, 0), "alive A[2] P[1] E[2] D1 W[]");
    }

    private static void disconnectOfNoPeer() {
        Kit.says("Otherwise nothing happens.");
        arrives(disconnected(2), 0, "alive A[] P[] E[] D0 W[]", "");
        arrives(disconnected(2, 2), 0, "alive A[2] P[] E[2] D0 W[]", "");
        arrives(disconnected(2, 2, 3), 0, "alive A[2 3] P[] E[2 3] D0 W[]", "");
        arrives(disconnected(2, 1, 6, 2, 3), 0, "alive A[2 3] P[1 6] E[2 3] D0 W[]", "");
        arrives(disconnected(1, 6, 2, 3), 0, "alive A[2 3] P[6] E[2 3] D0 W[]", "");
    }

    // ---- NEIGHBOR ----

    /** Node 0 asks node 1, whose peers are given, in slot 0: urgently, with a = 1, or with a = 0. */
    private static GossipOverlay asked(int activeCap, boolean urgent, int... peers) {
        GossipOverlay g = new GossipOverlay(16, activeCap, 8, 2);
        Kit.see(g, 1, peers);
        // Urgently if the last peer of 0 dies, when the requests to these are used up.
        for (int i = 0; urgent && i < activeCap - 1; i++) {
            Kit.see(g, 0, 8 + i);
        }
        Kit.see(g, 0, 1);
        for (int i = 0; i < activeCap; i++) {
            Kit.see(g, 0, 12 + i);
        }
        for (int i = 0; i < (urgent ? activeCap : 1); i++) {
            Kit.dropAll(g);
            g.crash(12 + i);
        }
        Kit.due("the pool", Kit.pool(g), "0:NEIGHBOR 0>1 " + (urgent ? 1 : 0));
        return g;
    }

    private static void neighborWithRoomOrUrgent() {
        Kit.says("If a==1 or |A(y)| < ACAP: ADDA(y,x,true).");
        for (int urgent = 0; urgent <= 1; urgent++) {
            boolean is = urgent == 1;
            arrives(asked(2, is), 1, "alive A[0] P[] E[0] D0 W[]", "0:LINK 1>0 0");
            arrives(asked(2, is, 2), 1, "alive A[2 0] P[] E[0 2] D0 W[]", "0:LINK 1>0 0");
            arrives(asked(3, is, 2, 3), 1, "alive A[2 3 0] P[] E[0 2 3] D0 W[]", "0:LINK 1>0 0");
            arrives(asked(4, is, 2, 3, 4), 1, "alive A[2 3 4 0] P[] E[0 2 3 4] D0 W[]", "0:LINK 1>0 0");
            // One that it holds already.
            arrives(asked(3, is, 0, 3), 1, "alive A[0 3] P[] E[0 3] D0 W[]", "");
        }
        arrives(asked(2, true, 2, 3), 1, "alive A[3 0] P[2] E[0 3] D0 W[]", "0:DISCONNECT 1>2 0, 1:LINK 1>0 0");
        arrives(asked(3, true, 2, 3, 4), 1, "alive A[3 4 0] P[2] E[0 3 4] D0 W[]",
            "0:DISCONNECT 1>2 0, 1:LINK 1>0 0");
        arrives(asked(4, true, 2, 3, 4, 5), 1, "alive A[3 4 5 0] P[2] E[0 3 4 5] D0 W[]",
            "0:DISCONNECT 1>2 0, 1:LINK 1>0 0");
        arrives(asked(2, true, 0, 3), 1, "alive A[0 3] P[] E[0 3] D0 W[]", "");
        // One that is in its passive view.
        arrives(asked(2, true, 0, 2, 3), 1, "alive A[3 0] P[2] E[0 3] D0 W[]", "0:DISCONNECT 1>2 0, 1:LINK 1>0 0");
    }

    private static void neighborAtAFullView() {
        Kit.says("Else SEND(y,x,REJECT,0).");
        arrives(asked(2, false, 2, 3), 1, "alive A[2 3] P[] E[2 3] D0 W[]", "0:REJECT 1>0 0");
        arrives(asked(3, false, 2, 3, 4), 1, "alive A[2 3 4] P[] E[2 3 4] D0 W[]", "0:REJECT 1>0 0");
        arrives(asked(4, false, 2, 3, 4, 5), 1, "alive A[2 3 4 5] P[] E[2 3 4 5] D0 W[]", "0:REJECT 1>0 0");
        // Even one that it holds, for the words ask about the size of the view alone.
        arrives(asked(2, false, 0, 3), 1, "alive A[0 3] P[] E[0 3] D0 W[]", "0:REJECT 1>0 0");
        arrives(asked(2, false, 0, 2, 3), 1, "alive A[2 3] P[0] E[2 3] D0 W[]", "0:REJECT 1>0 0");
    }

    // ---- REJECT ----

    /** A REJECT from 1 lies in slot 0 for node 0, which has A = 3 and, in P, what is given. */
    private static GossipOverlay rejected(int passiveCap, int... passive) {
        GossipOverlay g = new GossipOverlay(10, 2, passiveCap, 2);
        Kit.see(g, 1, 5, 6);
        Kit.see(g, 7, 0);
        Kit.see(g, 0, 1);
        Kit.see(g, 0, passive);
        Kit.see(g, 0, 3, 4);
        g.crash(4);
        g.deliver(0);
        Kit.due("the pool", Kit.pool(g), "0:REJECT 1>0 0");
        return g;
    }

    private static void reject() {
        Kit.says("REJECT: ADDP(y,x), then REPAIR(y).");
        // The rejecter is the only one left to ask, so it is asked again.
        arrives(rejected(4), 0, "alive A[3] P[] E[3] D0 W[]", "0:NEIGHBOR 0>1 0");
        arrives(rejected(4, 2), 0, "alive A[3] P[1] E[3] D0 W[]", "0:NEIGHBOR 0>2 0");
        arrives(rejected(4, 2, 8), 0, "alive A[3] P[8 1] E[3] D0 W[]", "0:NEIGHBOR 0>2 0");

        GossipOverlay alone = rejected(4);
        alone.crash(3);
        arrives(alone, 0, "alive A[] P[] E[] D0 W[]", "0:NEIGHBOR 0>1 1");

        GossipOverlay dead = rejected(4, 2, 8);
        dead.crash(2);
        arrives(dead, 0, "alive A[3] P[1] E[3] D0 W[]", "0:NEIGHBOR 0>8 0");

        // A passive view of one place, taken meanwhile by 7: it goes to the rejecter, that is asked at once.
        GossipOverlay one = rejected(1);
        one.shuffle(7);
        one.deliver(1);
        one.drop(1);
        Kit.due("P(0)", Kit.passive(one, 0), "7");
        arrives(one, 0, "alive A[3] P[] E[3] D0 W[]", "0:NEIGHBOR 0>1 0");

        // With a full active view the rejecter is kept and nobody asked.
        GossipOverlay full = rejected(4, 2);
        full.join(9, 0);
        full.deliver(1);
        full.drop(1);
        full.drop(2);
        arrives(full, 0, "alive A[3 9] P[2 1] E[3 9] D0 W[]", "");

        // The rejecter is an active peer by now: not added, but the repair runs.
        GossipOverlay peer = rejected(4, 2, 8);
        peer.join(1, 0);
        peer.deliver(1);
        peer.crash(3);
        Kit.due("node 0", Kit.node(peer, 0), "alive A[1] P[8] E[1] D0 W[]");
        Kit.due("the pool", Kit.pool(peer), "0:REJECT 1>0 0, 1:LINK 0>1 0, 2:NEIGHBOR 0>2 0");
        arrives(peer, 0, "alive A[1] P[] E[1] D0 W[]", "0:NEIGHBOR 0>8 0, 1:LINK 0>1 0, 2:NEIGHBOR 0>2 0");
    }

    // ---- SHUFFLE and SHUFFLEREPLY ----

    private static void shuffleReplyTellsTheViewBefore() {
        Kit.says("Let r be the mask of P(y) as it is before this message.");
        GossipOverlay empty = new GossipOverlay(16, 2, 8, 2);
        Kit.see(empty, 0, 1, 5);
        empty.shuffle(0);
        empty.deliver(0);
        Kit.due("P(1)", Kit.passive(empty, 1), "0 5");
        Kit.due("the pool, of an empty view", Kit.pool(empty), "0:SHUFFLEREPLY 1>0 0");

        GossipOverlay full = new GossipOverlay(16, 2, 8, 2);
        Kit.see(full, 1, 15, 14, 13, 12, 11, 10, 9, 8, 3, 4);
        Kit.see(full, 0, 1, 5);
        full.shuffle(0);
        full.deliver(0);
        Kit.due("P(1)", Kit.passive(full, 1), "13 12 11 10 9 8 0 5");
        Kit.due("the pool, of a full view", Kit.pool(full), "0:SHUFFLEREPLY 1>0 65280");
    }

    private static void shuffleOffersAscending() {
        Kit.says("SHUFFLE: Let r be the mask of P(y) as it is before this message. "
            + "For each node i in a, ascending: ADDP(y,i).");
        // One place: the greatest stays. The sender itself is offered too.
        GossipOverlay one = new GossipOverlay(16, 4, 1, 2);
        Kit.tell(one, 9, 0, 15, 1, 7);
        Kit.due("P(0) of one place", Kit.passive(one, 0), "15");
        GossipOverlay sender = new GossipOverlay(16, 4, 1, 2);
        Kit.tell(sender, 9, 0);
        Kit.due("P(0), offered the sender alone", Kit.passive(sender, 0), "9");

        // What is put out on the way may come in again: 5 goes for 2, then 3 for 5.
        GossipOverlay again = new GossipOverlay(16, 2, 2, 2);
        Kit.see(again, 1, 5, 3, 0, 9);
        Kit.see(again, 0, 5, 1, 2);
        Kit.due("P(1)", Kit.passive(again, 1), "5 3");
        again.shuffle(0);
        Kit.due("the pool", Kit.pool(again), "0:SHUFFLE 0>1 37");
        arrives(again, 1, "alive A[0 9] P[2 5] E[0 9] D0 W[]", "0:SHUFFLEREPLY 1>0 40");

        // What is there already may be put out by a later one: 2 goes for 5, and stays out.
        GossipOverlay out = new GossipOverlay(16, 2, 2, 2);
        Kit.see(out, 1, 2, 9, 0, 8);
        Kit.see(out, 0, 5, 1, 2);
        out.shuffle(0);
        Kit.due("the pool", Kit.pool(out), "0:SHUFFLE 0>1 37");
        arrives(out, 1, "alive A[0 8] P[9 5] E[0 8] D0 W[]", "0:SHUFFLEREPLY 1>0 516");

        // Nothing new is offered: the view stays as it is, in its order.
        GossipOverlay known = new GossipOverlay(16, 2, 2, 2);
        Kit.see(known, 1, 5, 2, 0, 9);
        Kit.see(known, 0, 5, 1, 2);
        known.shuffle(0);
        arrives(known, 1, "alive A[0 9] P[5 2] E[0 9] D0 W[]", "0:SHUFFLEREPLY 1>0 36");

        GossipOverlay dead = new GossipOverlay(16, 2, 2, 2);
        Kit.see(dead, 0, 5, 1, 2);
        dead.crash(5);
        dead.shuffle(0);
        dead.deliver(0);
        Kit.due("P(1), the dead 5 offered last", Kit.passive(dead, 1), "2 5");
    }

    private static void shuffleAnswersInAFullPool() {
        Kit.says("Then SEND(y,x,SHUFFLEREPLY,r).");
        GossipOverlay g = new GossipOverlay(8, 2, 2, 2);
        Kit.see(g, 0, 1);
        Kit.see(g, 1, 7, 6, 5);
        g.shuffle(0);
        Kit.fillPool(g, 2, 3);
        g.deliver(0);
        Kit.due("message(0), the reply in the freed slot", g.message(0), 0x08100080);
        Kit.due("lost()", g.lost(), 0);
        Kit.due("A(1), that does not hold 0", Kit.active(g, 1), "6 5");
    }

    private static void shuffleReply() {
        Kit.says("SHUFFLEREPLY: For each node i in a, ascending: ADDP(y,i).");
        GossipOverlay nothing = new GossipOverlay(16, 2, 2, 2);
        Kit.see(nothing, 0, 5, 1, 2);
        nothing.shuffle(0);
        nothing.deliver(0);
        Kit.due("the pool", Kit.pool(nothing), "0:SHUFFLEREPLY 1>0 0");
        arrives(nothing, 0, "alive A[1 2] P[5] E[1 2] D0 W[]", "");

        // Of itself, an active peer, a passive one and 15, the last alone is taken.
        GossipOverlay one = new GossipOverlay(16, 2, 4, 2);
        Kit.see(one, 0, 6, 5, 1, 2);
        Kit.see(one, 1, 15, 0, 2, 6, 9, 10);
        one.shuffle(0);
        one.deliver(0);
        Kit.due("the pool", Kit.pool(one), "0:SHUFFLEREPLY 1>0 32837");
        arrives(one, 0, "alive A[1 2] P[6 5 15] E[1 2] D0 W[]", "");

        // Into a full view of two, in which 5 goes for 3 and comes in again for 4.
        GossipOverlay again = new GossipOverlay(16, 2, 2, 2);
        Kit.see(again, 0, 5, 4, 1, 2);
        Kit.see(again, 1, 5, 3, 9, 10);
        again.shuffle(0);
        again.deliver(0);
        Kit.due("the pool", Kit.pool(again), "0:SHUFFLEREPLY 1>0 40");
        arrives(again, 0, "alive A[1 2] P[3 5] E[1 2] D0 W[]", "");

        // And one in which 4 is there already, goes for 5 and stays out.
        GossipOverlay out = new GossipOverlay(16, 2, 2, 2);
        Kit.see(out, 0, 4, 6, 1, 2);
        Kit.see(out, 1, 4, 5, 9, 10);
        out.shuffle(0);
        out.deliver(0);
        Kit.due("the pool", Kit.pool(out), "0:SHUFFLEREPLY 1>0 48");
        arrives(out, 0, "alive A[1 2] P[6 5] E[1 2] D0 W[]", "");
    }
}
