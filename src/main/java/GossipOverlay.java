/**
 * An overlay of up to 16 nodes with partial views, and broadcasts over it.
 * The promises are those of the project's document; see README.md for use.
 *
 * Sets of nodes and sets of broadcast ids are masks: bit i stands for node i or id i.
 */
public final class GossipOverlay {
    public static final int JOIN = 1;
    public static final int FORWARDJOIN = 2;
    public static final int LINK = 3;
    public static final int DISCONNECT = 4;
    public static final int NEIGHBOR = 5;
    public static final int REJECT = 6;
    public static final int SHUFFLE = 7;
    public static final int SHUFFLEREPLY = 8;
    public static final int GOSSIP = 9;
    public static final int IHAVE = 10;
    public static final int GRAFT = 11;
    public static final int PRUNE = 12;
    public static final int POOL = 64;
    public static final int MAX_BROADCASTS = 16;
    public static final int ARWL = 3;
    public static final int PRWL = 1;

    private static final int MAX_NODES = 16;
    private static final int MAX_ACTIVE = 4;
    private static final int MAX_PASSIVE = 8;
    private static final int MAX_TIMEOUT = 8;
    private static final int ACTIVE_PLACES = MAX_NODES * MAX_ACTIVE;
    private static final int PASSIVE_PLACES = MAX_NODES * MAX_PASSIVE;
    private static final int WAITS = MAX_NODES * MAX_BROADCASTS;
    private static final int ALL_IDS = 0xffff;
    private static final int MAX_INT = 0x7fffffff;
    private static final int NONE = -1;
    // Kinds start at 1, so no message has the code 0.
    private static final int FREE = 0;

    private final int nodeCount;
    private final int activeCap;
    private final int passiveCap;
    private final int timeout;

    private final boolean[] alive = new boolean[MAX_NODES];
    // Row x of a view holds the list of node x; only its first size entries count.
    private final int[] active = new int[ACTIVE_PLACES];
    private final int[] activeSize = new int[MAX_NODES];
    private final int[] passive = new int[PASSIVE_PLACES];
    private final int[] passiveSize = new int[MAX_NODES];
    private final int[] eagerPeers = new int[MAX_NODES];
    private final int[] deliveredIds = new int[MAX_NODES];
    private final int[] announcers = new int[WAITS];
    private final int[] timers = new int[WAITS];
    private final int[] slots = new int[POOL];
    private int broadcastsMade = 0;
    private int lostSends = 0;

    public GossipOverlay(int nodes, int activeCap, int passiveCap, int timeout) {
        this.nodeCount = clamp(nodes, 2, MAX_NODES);
        this.activeCap = clamp(activeCap, 2, MAX_ACTIVE);
        this.passiveCap = clamp(passiveCap, 1, MAX_PASSIVE);
        this.timeout = clamp(timeout, 1, MAX_TIMEOUT);
        for (int x = 0; x < MAX_NODES; x++) {
            alive[x] = x < this.nodeCount;
        }
    }

    // ---- What the caller does ----

    public boolean join(int n, int c) {
        if (!isAlive(n) || !isAlive(c) || n == c) {
            return false;
        }
        send(n, c, JOIN, 0);
        return true;
    }

    public boolean shuffle(int n) {
        if (!isAlive(n) || activeSize[n] == 0) {
            return false;
        }
        int first = active[n * MAX_ACTIVE];
        int known = activeMask(n) | passiveMask(n) | (1 << n);
        send(n, first, SHUFFLE, known & ~(1 << first));
        return true;
    }

    public boolean crash(int n) {
        if (!isAlive(n)) {
            return false;
        }
        alive[n] = false;
        forgetPeers(n);
        removeMessagesOf(n);
        for (int x = 0; x < nodeCount; x++) {
            if (alive[x] && removeActive(x, n)) {
                repair(x);
            }
        }
        return true;
    }

    public int broadcast(int n) {
        if (!isAlive(n) || broadcastsMade >= MAX_BROADCASTS) {
            return -1;
        }
        int id = broadcastsMade;
        broadcastsMade++;
        deliveredIds[n] |= 1 << id;
        forward(n, NONE, 1 << id);
        return id;
    }

    public boolean deliver(int slot) {
        if (!isUsed(slot)) {
            return false;
        }
        int code = slots[slot];
        // Freed before handling, because sends made while handling may reuse the slot.
        slots[slot] = FREE;
        int from = (code >> 20) & 15;
        int to = (code >> 16) & 15;
        int arg = code & 0xffff;
        switch (code >> 24) {
            case JOIN:
                onJoin(to, from);
                break;
            case FORWARDJOIN:
                onForwardJoin(to, from, arg);
                break;
            case LINK:
                addActive(to, from, false);
                break;
            case DISCONNECT:
                onDisconnect(to, from);
                break;
            case NEIGHBOR:
                onNeighbor(to, from, arg);
                break;
            case REJECT:
                addPassive(to, from);
                repair(to);
                break;
            case SHUFFLE:
                onShuffle(to, from, arg);
                break;
            case SHUFFLEREPLY:
                addAllPassive(to, arg);
                break;
            case GOSSIP:
                onGossip(to, from, arg);
                break;
            case IHAVE:
                onIhave(to, from, arg);
                break;
            case GRAFT:
                onGraft(to, from, arg);
                break;
            case PRUNE:
                eagerPeers[to] &= ~(1 << from);
                break;
            default:
                break;
        }
        return true;
    }

    public boolean drop(int slot) {
        if (!isUsed(slot)) {
            return false;
        }
        int kind = slots[slot] >> 24;
        if (kind == GOSSIP || kind == IHAVE || kind == GRAFT || kind == PRUNE) {
            return false;
        }
        slots[slot] = FREE;
        return true;
    }

    public int tick() {
        int grafts = 0;
        for (int x = 0; x < nodeCount; x++) {
            for (int id = 0; id < MAX_BROADCASTS; id++) {
                if (alive[x] && countDownEnds(x, id)) {
                    graftNextAnnouncer(x, id);
                    grafts++;
                }
            }
        }
        return grafts;
    }

    // ---- What the caller asks ----

    public int message(int slot) {
        return isUsed(slot) ? slots[slot] : -1;
    }

    public int pending() {
        int used = 0;
        for (int slot = 0; slot < POOL; slot++) {
            if (slots[slot] != FREE) {
                used++;
            }
        }
        return used;
    }

    public int activeAt(int n, int i) {
        if (!isNode(n) || i < 0 || i >= activeSize[n]) {
            return -1;
        }
        return active[n * MAX_ACTIVE + i];
    }

    public int passiveAt(int n, int i) {
        if (!isNode(n) || i < 0 || i >= passiveSize[n]) {
            return -1;
        }
        return passive[n * MAX_PASSIVE + i];
    }

    public boolean isEager(int n, int p) {
        return isNode(n) && isNode(p) && (eagerPeers[n] & (1 << p)) != 0;
    }

    public int delivered(int n) {
        return isNode(n) ? deliveredIds[n] : 0;
    }

    public int graftState(int n, int b) {
        if (!isNode(n) || b < 0 || b >= MAX_BROADCASTS) {
            return 0;
        }
        int cell = n * MAX_BROADCASTS + b;
        return announcers[cell] | (timers[cell] << 16);
    }

    public int lost() {
        return lostSends;
    }

    public boolean isAlive(int n) {
        return isNode(n) && alive[n];
    }

    // ---- Membership messages, handled at node x ----

    private void onJoin(int x, int joiner) {
        addActive(x, joiner, true);
        int size = activeSize[x];
        for (int i = 0; i < size; i++) {
            int peer = active[x * MAX_ACTIVE + i];
            if (peer != joiner) {
                send(x, peer, FORWARDJOIN, joiner | (ARWL << 4));
            }
        }
    }

    private void onForwardJoin(int x, int from, int arg) {
        int joiner = arg & 15;
        int stepsLeft = (arg >> 4) & 15;
        if (stepsLeft == 0 || activeSize[x] <= 1) {
            addActive(x, joiner, true);
            return;
        }
        if (stepsLeft == PRWL) {
            addPassive(x, joiner);
        }
        int next = firstActiveExcept(x, from, joiner);
        if (next == NONE) {
            addActive(x, joiner, true);
        } else {
            send(x, next, FORWARDJOIN, joiner | ((stepsLeft - 1) << 4));
        }
    }

    private void onDisconnect(int x, int from) {
        if (removeActive(x, from)) {
            addPassive(x, from);
        }
    }

    private void onNeighbor(int x, int from, int arg) {
        if (arg == 1 || activeSize[x] < activeCap) {
            addActive(x, from, true);
        } else {
            send(x, from, REJECT, 0);
        }
    }

    private void onShuffle(int x, int from, int offered) {
        // Taken first: the reply tells the passive view as it was before the offer.
        int reply = passiveMask(x);
        addAllPassive(x, offered);
        send(x, from, SHUFFLEREPLY, reply);
    }

    // ---- Broadcast messages, handled at node x ----

    private void onGossip(int x, int from, int ids) {
        int fresh = ids & ~deliveredIds[x];
        if (fresh == 0) {
            eagerPeers[x] &= ~(1 << from);
            send(x, from, PRUNE, 0);
            return;
        }
        deliveredIds[x] |= fresh;
        stopWaitingFor(x, fresh);
        makeEager(x, from);
        forward(x, from, fresh);
    }

    private void onIhave(int x, int from, int ids) {
        int missing = ids & ~deliveredIds[x];
        for (int id = 0; id < MAX_BROADCASTS; id++) {
            if ((missing & (1 << id)) != 0) {
                int cell = x * MAX_BROADCASTS + id;
                announcers[cell] |= 1 << from;
                if (timers[cell] == 0) {
                    timers[cell] = timeout;
                }
            }
        }
    }

    private void onGraft(int x, int from, int ids) {
        makeEager(x, from);
        int held = ids & deliveredIds[x];
        if (held != 0) {
            send(x, from, GOSSIP, held);
        }
    }

    // ---- The document's shared steps: SEND, ADDP, ADDA, REPAIR, FORWARD ----

    private void send(int from, int to, int kind, int arg) {
        if (!alive[to]) {
            return;
        }
        for (int slot = 0; slot < POOL; slot++) {
            if (slots[slot] == FREE) {
                slots[slot] = (kind << 24) | (from << 20) | (to << 16) | arg;
                return;
            }
        }
        // The count only grows, so it stays at the greatest int rather than wrap around.
        if (lostSends < MAX_INT) {
            lostSends++;
        }
    }

    private void addPassive(int x, int peer) {
        if (peer == x || isActive(x, peer) || isPassive(x, peer)) {
            return;
        }
        if (passiveSize[x] == passiveCap) {
            int oldest = passive[x * MAX_PASSIVE];
            removePassive(x, oldest);
        }
        passive[x * MAX_PASSIVE + passiveSize[x]] = peer;
        passiveSize[x]++;
    }

    private void addActive(int x, int peer, boolean link) {
        if (peer == x || !alive[peer] || isActive(x, peer)) {
            return;
        }
        // Before the eviction, so that the evicted peer can take the place in the passive view.
        removePassive(x, peer);
        if (activeSize[x] == activeCap) {
            int evicted = active[x * MAX_ACTIVE];
            removeActive(x, evicted);
            addPassive(x, evicted);
            send(x, evicted, DISCONNECT, 0);
        }
        active[x * MAX_ACTIVE + activeSize[x]] = peer;
        activeSize[x]++;
        eagerPeers[x] |= 1 << peer;
        if (link) {
            send(x, peer, LINK, 0);
        }
        if (deliveredIds[x] != 0) {
            send(x, peer, IHAVE, deliveredIds[x]);
        }
    }

    private void repair(int x) {
        if (activeSize[x] == activeCap) {
            return;
        }
        // Each round takes one peer off the passive view, so its greatest size bounds the rounds.
        for (int round = 0; round < MAX_PASSIVE; round++) {
            if (passiveSize[x] == 0) {
                return;
            }
            int peer = passive[x * MAX_PASSIVE];
            removePassive(x, peer);
            if (alive[peer]) {
                send(x, peer, NEIGHBOR, activeSize[x] == 0 ? 1 : 0);
                return;
            }
        }
    }

    private void forward(int x, int except, int ids) {
        int size = activeSize[x];
        for (int i = 0; i < size; i++) {
            int peer = active[x * MAX_ACTIVE + i];
            if (peer != except) {
                boolean eager = (eagerPeers[x] & (1 << peer)) != 0;
                send(x, peer, eager ? GOSSIP : IHAVE, ids);
            }
        }
    }

    // ---- Views ----

    private boolean isActive(int x, int peer) {
        for (int i = 0; i < activeSize[x]; i++) {
            if (active[x * MAX_ACTIVE + i] == peer) {
                return true;
            }
        }
        return false;
    }

    private int firstActiveExcept(int x, int one, int other) {
        for (int i = 0; i < activeSize[x]; i++) {
            int peer = active[x * MAX_ACTIVE + i];
            if (peer != one && peer != other) {
                return peer;
            }
        }
        return NONE;
    }

    private int activeMask(int x) {
        int mask = 0;
        for (int i = 0; i < activeSize[x]; i++) {
            mask |= 1 << active[x * MAX_ACTIVE + i];
        }
        return mask;
    }

    // The eager set is a part of the active view, so who leaves the one leaves the other.
    private boolean removeActive(int x, int peer) {
        int kept = 0;
        int size = activeSize[x];
        for (int i = 0; i < size; i++) {
            int entry = active[x * MAX_ACTIVE + i];
            if (entry != peer) {
                active[x * MAX_ACTIVE + kept] = entry;
                kept++;
            }
        }
        activeSize[x] = kept;
        eagerPeers[x] &= ~(1 << peer);
        return kept < size;
    }

    private boolean isPassive(int x, int peer) {
        for (int i = 0; i < passiveSize[x]; i++) {
            if (passive[x * MAX_PASSIVE + i] == peer) {
                return true;
            }
        }
        return false;
    }

    private int passiveMask(int x) {
        int mask = 0;
        for (int i = 0; i < passiveSize[x]; i++) {
            mask |= 1 << passive[x * MAX_PASSIVE + i];
        }
        return mask;
    }

    private void addAllPassive(int x, int nodes) {
        for (int peer = 0; peer < nodeCount; peer++) {
            if ((nodes & (1 << peer)) != 0) {
                addPassive(x, peer);
            }
        }
    }

    private void removePassive(int x, int peer) {
        int kept = 0;
        int size = passiveSize[x];
        for (int i = 0; i < size; i++) {
            int entry = passive[x * MAX_PASSIVE + i];
            if (entry != peer) {
                passive[x * MAX_PASSIVE + kept] = entry;
                kept++;
            }
        }
        passiveSize[x] = kept;
    }

    private void forgetPeers(int x) {
        activeSize[x] = 0;
        passiveSize[x] = 0;
        eagerPeers[x] = 0;
        stopWaitingFor(x, ALL_IDS);
    }

    // ---- Eager links and timers ----

    private void makeEager(int x, int peer) {
        // A message may come from a node that has left the active view, or never was in it.
        if (isActive(x, peer)) {
            eagerPeers[x] |= 1 << peer;
        }
    }

    private void stopWaitingFor(int x, int ids) {
        for (int id = 0; id < MAX_BROADCASTS; id++) {
            if ((ids & (1 << id)) != 0) {
                announcers[x * MAX_BROADCASTS + id] = 0;
                timers[x * MAX_BROADCASTS + id] = 0;
            }
        }
    }

    private boolean countDownEnds(int x, int id) {
        int cell = x * MAX_BROADCASTS + id;
        if (timers[cell] == 0) {
            return false;
        }
        timers[cell]--;
        return timers[cell] == 0 && announcers[cell] != 0;
    }

    private void graftNextAnnouncer(int x, int id) {
        int cell = x * MAX_BROADCASTS + id;
        int peer = lowestNode(announcers[cell]);
        announcers[cell] &= ~(1 << peer);
        makeEager(x, peer);
        send(x, peer, GRAFT, 1 << id);
        if (announcers[cell] != 0) {
            timers[cell] = timeout;
        }
    }

    private static int lowestNode(int mask) {
        for (int x = 0; x < MAX_NODES; x++) {
            if ((mask & (1 << x)) != 0) {
                return x;
            }
        }
        return 0;
    }

    // ---- Arguments and the pool ----

    private static int clamp(int value, int least, int greatest) {
        if (value < least) {
            return least;
        }
        return value > greatest ? greatest : value;
    }

    private boolean isNode(int n) {
        return n >= 0 && n < nodeCount;
    }

    private boolean isUsed(int slot) {
        return slot >= 0 && slot < POOL && slots[slot] != FREE;
    }

    private void removeMessagesOf(int n) {
        for (int slot = 0; slot < POOL; slot++) {
            int from = (slots[slot] >> 20) & 15;
            int to = (slots[slot] >> 16) & 15;
            if (from == n || to == n) {
                slots[slot] = FREE;
            }
        }
    }
}
