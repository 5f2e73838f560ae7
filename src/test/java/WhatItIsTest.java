/** "What it is": what the document tells of the whole before it goes into the single calls. */
public final class WhatItIsTest {
    private static final String FILLED = "These views are filled by join, forward-join random walks, link, "
        + "disconnect, neighbour/reject requests and a one-hop shuffle.";
    private static final String NOT_DROPPED = "drop() refuses GOSSIP, IHAVE, GRAFT and PRUNE messages; they can "
        + "still be lost by SEND when the pool is full, and crash still removes them.";
    private static final String HISTORY = "Every newly formed active link announces the whole delivered history, "
        + "so late joiners and repaired links catch up.";

    public static void main(String[] args) {
        nodesBuildAnOverlayAndBroadcast();
        viewsAreOrderedAndCapped();
        joinWalkAndLinkFillViews();
        disconnectAndRequestsFillViews();
        shuffleFillsViews();
        oneSlotAtATime();
        membershipMessagesMayBeDropped();
        broadcastMessagesMayNotBeDropped();
        broadcastMessagesAreLostInAFullPool();
        aCrashedNodeVanishes();
        peersOfACrashedNodeRepair();
        eagerPushAndLazyAnnouncement();
        aDuplicatePrunes();
        anAnnouncementStartsATimer();
        announcersAreTriedOneByOne();
        newLinksAnnounceTheHistory();
        lateJoinersCatchUp();
        repairedLinksCatchUp();
        messageKinds();
        numberOfSlots();
        numberOfBroadcasts();
        walkLengths();
        Kit.end();
    }

    // ---- The overlay ----

    private static void nodesBuildAnOverlayAndBroadcast() {
        Kit.says("GossipOverlay holds N nodes (N between 2 and 16) that build an unstructured overlay out of "
            + "partial views (HyParView style) and broadcast over it (Plumtree style).");
        for (int nodes = 2; nodes <= 16; nodes++) {
            for (int way = 0; way < 2; way++) {
                // With smaller active views the document lets the overlay fall apart, and some do.
                GossipOverlay g = new GossipOverlay(nodes, 4, 4, 2);
                for (int n = 1; n < nodes; n++) {
                    g.join(n, way == 0 ? 0 : n - 1);
                    Kit.settle(g);
                }
                for (int b = 0; b < 16; b++) {
                    g.broadcast(b % nodes);
                    settleWithTicks(g);
                }
                for (int n = 0; n < nodes; n++) {
                    Kit.due("delivered(" + n + ") of " + nodes + " nodes", g.delivered(n), 65535);
                }
                Kit.due("lost()", g.lost(), 0);
            }
        }
    }

    /** Until no timer runs and no message is left. */
    private static void settleWithTicks(GossipOverlay g) {
        Kit.settle(g);
        for (int i = 0; i < 40; i++) {
            g.tick();
            Kit.settle(g);
        }
    }

    private static void viewsAreOrderedAndCapped() {
        Kit.says("Each node keeps an ordered ACTIVE view (at most ACAP nodes) and an ordered PASSIVE view "
            + "(at most PCAP nodes); either cap may be the larger.");
        String[][] due = {
            {"2", "1", "4 3", "5"}, {"2", "2", "4 3", "6 5"}, {"2", "8", "4 3", "12 11 10 9 8 7 6 5"},
            {"3", "1", "5 4 3", "6"}, {"3", "4", "5 4 3", "9 8 7 6"}, {"4", "1", "6 5 4 3", "7"},
            {"4", "4", "6 5 4 3", "10 9 8 7"}, {"4", "8", "6 5 4 3", "14 13 12 11 10 9 8 7"}
        };
        for (String[] row : due) {
            GossipOverlay g = new GossipOverlay(16, Integer.parseInt(row[0]), Integer.parseInt(row[1]), 2);
            for (int n = 15; n >= 3; n--) {
                Kit.see(g, 0, n);
            }
            String caps = " with caps " + row[0] + " and " + row[1];
            Kit.due("A(0)" + caps, Kit.active(g, 0), row[2]);
            Kit.due("P(0)" + caps, Kit.passive(g, 0), row[3]);
        }
    }

    private static void joinWalkAndLinkFillViews() {
        Kit.says(FILLED);
        GossipOverlay g = new GossipOverlay(4, 3, 2, 2);
        Kit.see(g, 0, 1);
        g.join(2, 0);
        Kit.due("A(0) while the JOIN lies in the pool", Kit.active(g, 0), "1");
        g.deliver(0);
        Kit.due("A(0), by a JOIN", Kit.active(g, 0), "1 2");
        Kit.due("the pool", Kit.pool(g), "0:LINK 0>2 0, 1:FORWARDJOIN 0>1 50");
        g.deliver(0);
        Kit.due("A(2), by a LINK", Kit.active(g, 2), "0");
        g.deliver(1);
        Kit.due("A(1), by a FORWARDJOIN", Kit.active(g, 1), "2");
        Kit.due("the pool", Kit.pool(g), "0:LINK 1>2 0");
    }

    private static void disconnectAndRequestsFillViews() {
        Kit.says(FILLED);
        GossipOverlay g = new GossipOverlay(8, 2, 2, 2);
        Kit.link(g, 0, 1);
        Kit.see(g, 0, 2);
        g.join(3, 0);
        g.deliver(0);
        Kit.due("message(0), a DISCONNECT 0>1", g.message(0), 0x04010000);
        g.deliver(0);
        Kit.due("node 1, by a DISCONNECT", Kit.node(g, 1), "alive A[] P[0] E[] D0 W[]");
        Kit.dropAll(g);

        g.crash(2);
        Kit.due("the pool", Kit.pool(g), "0:NEIGHBOR 0>1 0");
        g.deliver(0);
        Kit.due("node 1, by a NEIGHBOR", Kit.node(g, 1), "alive A[0] P[] E[0] D0 W[]");
        Kit.due("the pool", Kit.pool(g), "0:LINK 1>0 0");

        // Node 0 asks 4, which is full and says no, so that it asks 5, the next, and keeps 4 for later.
        GossipOverlay full = new GossipOverlay(8, 2, 3, 2);
        Kit.see(full, 4, 6, 7);
        Kit.see(full, 0, 4, 5, 1, 2);
        full.crash(1);
        full.deliver(0);
        Kit.due("the pool", Kit.pool(full), "0:REJECT 4>0 0");
        Kit.due("P(0)", Kit.passive(full, 0), "5");
        full.deliver(0);
        Kit.due("the pool", Kit.pool(full), "0:NEIGHBOR 0>5 0");
        Kit.due("P(0), by a REJECT", Kit.passive(full, 0), "4");
    }

    private static void shuffleFillsViews() {
        Kit.says(FILLED);
        GossipOverlay g = new GossipOverlay(8, 2, 4, 2);
        Kit.see(g, 0, 2, 1, 3);
        Kit.see(g, 1, 4, 5, 6);
        Kit.due("P(0)", Kit.passive(g, 0), "2");
        Kit.due("P(1)", Kit.passive(g, 1), "4");
        g.shuffle(0);
        g.deliver(0);
        Kit.due("P(1), by a SHUFFLE", Kit.passive(g, 1), "4 0 2 3");
        g.deliver(0);
        Kit.due("P(0), by a SHUFFLEREPLY", Kit.passive(g, 0), "2 4");
        Kit.due("the pool, one hop and back", Kit.pool(g), "");
    }

    // ---- The pool ----

    private static void oneSlotAtATime() {
        Kit.says("All of these travel as messages in a pool of 64 slots, and the caller delivers or drops them "
            + "one slot at a time.");
        for (int slot = 0; slot < 64; slot++) {
            GossipOverlay before = States.busy(16);
            GossipOverlay delivered = States.busy(16);
            GossipOverlay dropped = States.busy(16);
            delivered.deliver(slot);
            boolean gone = dropped.drop(slot);
            for (int other = 0; other < 64; other++) {
                int was = before.message(other);
                if (other != slot && was != -1) {
                    Kit.due("message(" + other + ") after deliver(" + slot + ")", delivered.message(other), was);
                }
                Kit.due("message(" + other + ") after drop(" + slot + ")", dropped.message(other),
                    other == slot && gone ? -1 : was);
            }
        }
    }

    private static void membershipMessagesMayBeDropped() {
        Kit.says("Membership messages may be dropped by the caller.");
        GossipOverlay g = States.busy(16);
        int kinds = 0;
        for (int slot = 0; slot < 64; slot++) {
            int code = g.message(slot);
            if (code != -1 && code >> 24 <= GossipOverlay.SHUFFLEREPLY) {
                kinds |= 1 << (code >> 24);
                Kit.due("drop(" + slot + ")", g.drop(slot), true);
                Kit.due("message(" + slot + ")", g.message(slot), -1);
            }
        }
        Kit.due("the kinds that were there, 1 to 8", kinds, 0x1fe);
    }

    private static void broadcastMessagesMayNotBeDropped() {
        Kit.says(NOT_DROPPED);
        GossipOverlay g = States.busy(16);
        int kinds = 0;
        for (int slot = 0; slot < 64; slot++) {
            int code = g.message(slot);
            if (code != -1 && code >> 24 >= GossipOverlay.GOSSIP) {
                kinds |= 1 << (code >> 24);
                Kit.due("drop(" + slot + ")", g.drop(slot), false);
                Kit.due("message(" + slot + ")", g.message(slot), code);
                GossipOverlay from = States.busy(16);
                from.crash(code >> 20 & 15);
                Kit.due("message(" + slot + ") is there after its sender's crash", from.message(slot) == code, false);
                GossipOverlay to = States.busy(16);
                to.crash(code >> 16 & 15);
                Kit.due("message(" + slot + ") is there after its receiver's crash", to.message(slot) == code, false);
            }
        }
        Kit.due("the kinds that were there, 9 to 12", kinds, 0x1e00);
    }

    private static void broadcastMessagesAreLostInAFullPool() {
        Kit.says(NOT_DROPPED);
        // A PRUNE is never lost: the push that it answers has just left its slot free.
        GossipOverlay push = new GossipOverlay(8, 3, 2, 1);
        Kit.see(push, 0, 1, 2);
        Kit.makeLazy(push, 3, 0, 1);
        Kit.fillPool(push, 5, 6);
        Kit.due("broadcast(0)", push.broadcast(0), 1);
        Kit.due("lost(), an IHAVE to 1 and a GOSSIP to 2", push.lost(), 2);
        Kit.dropAll(push);
        Kit.due("pending()", push.pending(), 0);

        GossipOverlay graft = new GossipOverlay(8, 3, 2, 1);
        graft.broadcast(0);
        Kit.announce(graft, 0, 1);
        Kit.fillPool(graft, 5, 6);
        Kit.due("tick()", graft.tick(), 1);
        Kit.due("lost(), a GRAFT", graft.lost(), 1);
        Kit.dropAll(graft);
        Kit.due("pending()", graft.pending(), 0);
    }

    // ---- Crashes ----

    private static void aCrashedNodeVanishes() {
        Kit.says("A crashed node vanishes together with its messages and never revives.");
        for (int n = 0; n < 16; n++) {
            if (n == 2) {
                continue;
            }
            GossipOverlay g = States.busy(16);
            int had = g.delivered(n);
            g.crash(n);
            checkGone(g, n, had);
            Kit.future(g);
            checkGone(g, n, had);
        }
    }

    private static void checkGone(GossipOverlay g, int n, int had) {
        Kit.due("node " + n, Kit.node(g, n), "gone A[] P[] E[] D" + had + " W[]");
        for (int slot = 0; slot < 64; slot++) {
            int code = g.message(slot);
            boolean its = code != -1 && ((code >> 20 & 15) == n || (code >> 16 & 15) == n);
            Kit.due("slot " + slot + " holds a message of the crashed " + n, its, false);
        }
        for (int x = 0; x < 16; x++) {
            boolean held = (" " + Kit.active(g, x) + " ").contains(" " + n + " ");
            Kit.due("A(" + x + ") holds the crashed " + n, held, false);
            Kit.due("isEager(" + x + ", " + n + ")", g.isEager(x, n), false);
        }
    }

    private static void peersOfACrashedNodeRepair() {
        Kit.says("Each alive node that had it in its active view at once runs REPAIR, which takes passive peers "
            + "from the front of its passive view and sends a NEIGHBOR request to the first alive one; no active "
            + "view grows during the crash call.");
        GossipOverlay g = new GossipOverlay(12, 2, 4, 2);
        Kit.see(g, 0, 4, 5, 6, 1, 2);
        Kit.see(g, 3, 5, 4, 1);
        Kit.see(g, 7, 4, 5, 2);
        g.crash(4);
        Kit.dropAll(g);
        Kit.due("nodes 0, 3 and 7", Kit.node(g, 0) + ", " + Kit.node(g, 3) + ", " + Kit.node(g, 7),
            "alive A[1 2] P[4 5 6] E[1 2] D0 W[], alive A[1] P[] E[1] D0 W[], alive A[5 2] P[4] E[2 5] D0 W[]");
        g.crash(1);
        Kit.due("nodes 0, 3 and 7", Kit.node(g, 0) + ", " + Kit.node(g, 3) + ", " + Kit.node(g, 7),
            "alive A[2] P[6] E[2] D0 W[], alive A[] P[] E[] D0 W[], alive A[5 2] P[4] E[2 5] D0 W[]");
        Kit.due("the pool", Kit.pool(g), "0:NEIGHBOR 0>5 0");
    }

    // ---- Broadcasts ----

    private static void eagerPushAndLazyAnnouncement() {
        Kit.says("Each broadcast is pushed eagerly along links marked eager and announced lazily, as a bitmask of "
            + "ids, along the others.");
        GossipOverlay g = new GossipOverlay(8, 4, 2, 2);
        Kit.see(g, 0, 4, 2, 1);
        Kit.makeLazy(g, 3, 0, 2);
        g.broadcast(7);
        Kit.due("broadcast(0)", g.broadcast(0), 2);
        Kit.due("the pool", Kit.pool(g), "0:GOSSIP 0>4 4, 1:IHAVE 0>2 4, 2:GOSSIP 0>1 4");
        g.deliver(0);
        g.deliver(1);
        Kit.due("delivered(4), pushed", g.delivered(4) & 4, 4);
        Kit.due("delivered(2), announced", g.delivered(2) & 4, 0);
    }

    private static void aDuplicatePrunes() {
        Kit.says("A duplicate push prunes the link to lazy.");
        GossipOverlay g = new GossipOverlay(3, 2, 2, 2);
        Kit.link(g, 0, 1);
        Kit.link(g, 0, 2);
        Kit.link(g, 1, 2);
        g.broadcast(0);
        g.deliver(0);
        g.deliver(0);
        Kit.due("the pool", Kit.pool(g), "0:GOSSIP 2>0 1, 1:GOSSIP 0>2 1");
        g.deliver(1);
        Kit.due("E(2)", Kit.eager(g, 2), "1");
        Kit.due("the pool", Kit.pool(g), "0:GOSSIP 2>0 1, 1:PRUNE 2>0 0");
        g.deliver(1);
        Kit.due("node 0", Kit.node(g, 0), "alive A[1 2] P[] E[1] D1 W[]");
        Kit.due("node 2", Kit.node(g, 2), "alive A[0 1] P[] E[1] D1 W[]");
    }

    private static void anAnnouncementStartsATimer() {
        Kit.says("A missing id announced by a neighbour starts a timer.");
        GossipOverlay g = new GossipOverlay(4, 2, 2, 5);
        g.broadcast(1);
        g.broadcast(0);
        g.broadcast(0);
        Kit.due("graftState(1, 1)", g.graftState(1, 1), 0);
        Kit.announce(g, 0, 1);
        Kit.due("W(1), of the missing ids 1 and 2", Kit.waits(g, 1), "1:1/5 2:1/5");
        GossipOverlay none = new GossipOverlay(4, 2, 2, 5);
        none.broadcast(0);
        none.join(1, 0);
        Kit.settle(none);
        settleWithTicks(none);
        Kit.due("delivered(1)", none.delivered(1), 1);
        Kit.announce(none, 0, 1);
        Kit.due("W(1), nothing missing", Kit.waits(none, 1), "");
    }

    private static void announcersAreTriedOneByOne() {
        Kit.says("When the timer runs out after clock ticks, the node grafts the announcer back to eager and fetches "
            + "the payload, trying further announcers one by one.");
        // Both 0 and 3 have id 0 and announce it to 1.
        GossipOverlay g = new GossipOverlay(4, 2, 2, 3);
        Kit.see(g, 0, 3);
        g.broadcast(0);
        Kit.settle(g);
        Kit.announce(g, 0, 1);
        Kit.announce(g, 3, 1);
        Kit.see(g, 1, 3);
        Kit.due("node 1", Kit.node(g, 1), "alive A[3] P[] E[3] D0 W[0:9/3]");
        Kit.due("two ticks", g.tick() + g.tick(), 0);
        Kit.due("W(1)", Kit.waits(g, 1), "0:9/1");
        Kit.due("tick()", g.tick(), 1);
        Kit.due("W(1), 3 still to be tried", Kit.waits(g, 1), "0:8/3");
        Kit.due("the pool", Kit.pool(g), "0:GRAFT 1>0 1");
        // The first announcer fails.
        g.crash(0);
        Kit.due("two ticks", g.tick() + g.tick(), 0);
        Kit.due("tick()", g.tick(), 1);
        Kit.due("W(1), nobody left to be tried", Kit.waits(g, 1), "");
        Kit.due("the pool", Kit.pool(g), "0:GRAFT 1>3 1");
        g.deliver(0);
        Kit.due("the pool", Kit.pool(g), "0:GOSSIP 3>1 1");
        g.deliver(0);
        Kit.due("delivered(1)", g.delivered(1), 1);

        // The link that a duplicate made lazy becomes eager again at both ends.
        GossipOverlay back = new GossipOverlay(8, 4, 2, 1);
        Kit.link(back, 0, 1);
        Kit.makeLazy(back, 3, 0, 1);
        Kit.due("node 0", Kit.node(back, 0), "alive A[1] P[] E[] D1 W[]");
        Kit.due("E(1)", Kit.eager(back, 1), "");
        back.broadcast(0);
        Kit.settle(back);
        Kit.due("W(1)", Kit.waits(back, 1), "1:1/1");
        Kit.due("tick()", back.tick(), 1);
        Kit.due("E(1), 0 back", Kit.eager(back, 1), "0");
        Kit.due("E(0), the GRAFT on its way", Kit.eager(back, 0), "");
        back.deliver(0);
        Kit.due("E(0), 1 back", Kit.eager(back, 0), "1");
        Kit.settle(back);
        Kit.due("delivered(1)", back.delivered(1), 3);
    }

    private static void newLinksAnnounceTheHistory() {
        Kit.says(HISTORY);
        // Each of the kinds that form a link: JOIN at 0, FORWARDJOIN at 1, LINK at 2, NEIGHBOR at 3.
        GossipOverlay join = new GossipOverlay(8, 3, 2, 2);
        Kit.see(join, 0, 1);
        join.broadcast(0);
        Kit.settle(join);
        join.broadcast(1);
        join.broadcast(2);
        join.join(2, 0);
        join.deliver(0);
        Kit.due("the pool", Kit.pool(join), "0:LINK 0>2 0, 1:IHAVE 0>2 1, 2:FORWARDJOIN 0>1 50");
        join.deliver(2);
        Kit.due("the pool", Kit.pool(join), "0:LINK 0>2 0, 1:IHAVE 0>2 1, 2:LINK 1>2 0, 3:IHAVE 1>2 3");
        join.deliver(0);
        Kit.due("the pool", Kit.pool(join), "0:IHAVE 2>0 4, 1:IHAVE 0>2 1, 2:LINK 1>2 0, 3:IHAVE 1>2 3");

        GossipOverlay neighbor = new GossipOverlay(8, 2, 2, 2);
        Kit.see(neighbor, 0, 3, 1, 2);
        neighbor.broadcast(3);
        neighbor.broadcast(3);
        neighbor.crash(1);
        Kit.due("the pool", Kit.pool(neighbor), "0:NEIGHBOR 0>3 0");
        neighbor.deliver(0);
        Kit.due("the pool", Kit.pool(neighbor), "0:LINK 3>0 0, 1:IHAVE 3>0 3");
    }

    private static void lateJoinersCatchUp() {
        Kit.says(HISTORY);
        GossipOverlay g = new GossipOverlay(4, 3, 2, 3);
        for (int b = 0; b < 16; b++) {
            g.broadcast(b % 2 * 2);
        }
        Kit.due("delivered(1)", g.delivered(1), 0);
        g.join(1, 0);
        settleWithTicks(g);
        Kit.due("delivered(1), all that 0 has", g.delivered(1), 0x5555);
        g.join(3, 2);
        settleWithTicks(g);
        Kit.due("delivered(3), all that 2 has", g.delivered(3), 0xaaaa);
        g.join(3, 1);
        settleWithTicks(g);
        for (int n = 0; n < 4; n++) {
            Kit.due("delivered(" + n + ")", g.delivered(n), 65535);
        }
    }

    private static void repairedLinksCatchUp() {
        Kit.says(HISTORY);
        // When 1 crashes, 0 asks 2, which knew nothing of it.
        GossipOverlay g = new GossipOverlay(5, 2, 2, 3);
        Kit.see(g, 0, 2, 1, 3);
        g.broadcast(0);
        g.broadcast(0);
        g.broadcast(4);
        Kit.settle(g);
        Kit.due("node 0", Kit.node(g, 0), "alive A[1 3] P[2] E[1 3] D3 W[]");
        Kit.due("node 2", Kit.node(g, 2), "alive A[] P[] E[] D0 W[]");
        g.crash(1);
        settleWithTicks(g);
        Kit.due("node 0", Kit.node(g, 0), "alive A[3 2] P[] E[2 3] D3 W[]");
        Kit.due("node 2", Kit.node(g, 2), "alive A[0] P[] E[0] D3 W[]");
    }

    // ---- The constants ----

    private static void messageKinds() {
        Kit.says("Message kinds: JOIN = 1, FORWARDJOIN = 2, LINK = 3, DISCONNECT = 4, NEIGHBOR = 5, REJECT = 6, "
            + "SHUFFLE = 7, SHUFFLEREPLY = 8, GOSSIP = 9, IHAVE = 10, GRAFT = 11, PRUNE = 12.");
        int[] kinds = {
            GossipOverlay.JOIN, GossipOverlay.FORWARDJOIN, GossipOverlay.LINK, GossipOverlay.DISCONNECT,
            GossipOverlay.NEIGHBOR, GossipOverlay.REJECT, GossipOverlay.SHUFFLE, GossipOverlay.SHUFFLEREPLY,
            GossipOverlay.GOSSIP, GossipOverlay.IHAVE, GossipOverlay.GRAFT, GossipOverlay.PRUNE
        };
        for (int i = 0; i < 12; i++) {
            Kit.due("kind " + (i + 1), kinds[i], i + 1);
        }
    }

    private static void numberOfSlots() {
        Kit.says("POOL = 64: the number of message slots.");
        Kit.due("POOL", GossipOverlay.POOL, 64);
        GossipOverlay g = new GossipOverlay(2, 2, 2, 2);
        Kit.fillPool(g, 0, 1);
        g.join(0, 1);
        Kit.due("pending()", g.pending(), GossipOverlay.POOL);
        Kit.due("lost()", g.lost(), 1);
        Kit.due("deliver of the last slot", g.deliver(GossipOverlay.POOL - 1), true);
    }

    private static void numberOfBroadcasts() {
        Kit.says("MAX_BROADCASTS = 16: the number of broadcast ids, 0..15.");
        Kit.due("MAX_BROADCASTS", GossipOverlay.MAX_BROADCASTS, 16);
        GossipOverlay g = new GossipOverlay(2, 2, 2, 2);
        for (int b = 0; b < GossipOverlay.MAX_BROADCASTS; b++) {
            Kit.due("broadcast(0)", g.broadcast(0), b);
        }
        Kit.due("broadcast(0)", g.broadcast(0), -1);
    }

    private static void walkLengths() {
        Kit.says("ARWL = 3 and PRWL = 1: walk lengths used by JOIN and FORWARDJOIN handling.");
        Kit.due("ARWL", GossipOverlay.ARWL, 3);
        Kit.due("PRWL", GossipOverlay.PRWL, 1);
        // A walk along 0 1 2 3 4 5 for node 9.
        GossipOverlay g = new GossipOverlay(16, 4, 2, 2);
        for (int n = 0; n < 5; n++) {
            Kit.link(g, n, n + 1);
        }
        g.join(9, 0);
        g.deliver(0);
        g.drop(0);
        for (int step = 0; step < 4; step++) {
            Kit.due("steps left", Kit.pool(g), (step == 0 ? 1 : 0) + ":FORWARDJOIN " + step + ">" + (step + 1) + " "
                + (9 | 3 - step << 4));
            Kit.deliverNext(g);
        }
        Kit.due("the pool", Kit.pool(g), "0:LINK 4>9 0");
        Kit.due("P(2), with two steps left", Kit.passive(g, 2), "");
        Kit.due("P(3), with one step left", Kit.passive(g, 3), "9");
        Kit.due("P(4)", Kit.passive(g, 4), "");
    }
}
