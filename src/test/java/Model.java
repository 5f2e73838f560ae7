import java.util.ArrayList;
import java.util.List;
import java.util.TreeSet;

/**
 * The document put into Java a second time, with the library's lists and sets and as near to its
 * words as can be, so that ModelTest can set the class beside it. It shares no code with the class.
 */
final class Model {
    private static final class Message {
        final int kind;
        final int from;
        final int to;
        final int arg;

        Message(int kind, int from, int to, int arg) {
            this.kind = kind;
            this.from = from;
            this.to = to;
            this.arg = arg;
        }
    }

    private static final class Node {
        boolean alive = true;
        final List<Integer> a = new ArrayList<>();
        final List<Integer> p = new ArrayList<>();
        final TreeSet<Integer> e = new TreeSet<>();
        final TreeSet<Integer> d = new TreeSet<>();
        final List<TreeSet<Integer>> ann = new ArrayList<>();
        final int[] t = new int[16];

        Node() {
            for (int b = 0; b < 16; b++) {
                ann.add(new TreeSet<>());
            }
        }
    }

    private final List<Node> nodes = new ArrayList<>();
    private final int acap;
    private final int pcap;
    private final int timeout;
    private final Message[] pool = new Message[64];
    private int lost = 0;
    private int broadcasts = 0;

    Model(int nodes, int activeCap, int passiveCap, int timeout) {
        for (int x = 0; x < Math.min(Math.max(nodes, 2), 16); x++) {
            this.nodes.add(new Node());
        }
        this.acap = Math.min(Math.max(activeCap, 2), 4);
        this.pcap = Math.min(Math.max(passiveCap, 1), 8);
        this.timeout = Math.min(Math.max(timeout, 1), 8);
    }

    // ---- Terms ----

    private boolean valid(int n) {
        return 0 <= n && n < nodes.size();
    }

    private Node at(int n) {
        return nodes.get(n);
    }

    private static int mask(Iterable<Integer> members) {
        int mask = 0;
        for (int i : members) {
            mask |= 1 << i;
        }
        return mask;
    }

    private static List<Integer> members(int mask) {
        List<Integer> all = new ArrayList<>();
        for (int i = 0; i < 16; i++) {
            if ((mask >> i & 1) == 1) {
                all.add(i);
            }
        }
        return all;
    }

    // ---- Steps ----

    private void send(int x, int y, int k, int a) {
        if (!at(y).alive) {
            return;
        }
        for (int slot = 0; slot < 64; slot++) {
            if (pool[slot] == null) {
                pool[slot] = new Message(k, x, y, a);
                return;
            }
        }
        lost++;
    }

    private void addp(int x, int y) {
        Node n = at(x);
        if (y == x || n.a.contains(y) || n.p.contains(y)) {
            return;
        }
        if (n.p.size() == pcap) {
            n.p.remove(0);
        }
        n.p.add(y);
    }

    private void adda(int x, int y, boolean link) {
        Node n = at(x);
        if (y == x || !at(y).alive || n.a.contains(y)) {
            return;
        }
        n.p.remove(Integer.valueOf(y));
        if (n.a.size() == acap) {
            int z = n.a.remove(0);
            n.e.remove(z);
            addp(x, z);
            send(x, z, 4, 0);
        }
        n.a.add(y);
        n.e.add(y);
        if (link) {
            send(x, y, 3, 0);
        }
        if (!n.d.isEmpty()) {
            send(x, y, 10, mask(n.d));
        }
    }

    private void repair(int x) {
        Node n = at(x);
        while (n.a.size() != acap && !n.p.isEmpty()) {
            int p = n.p.remove(0);
            if (at(p).alive) {
                send(x, p, 5, n.a.isEmpty() ? 1 : 0);
                return;
            }
        }
    }

    private void forward(int x, int s, int m) {
        for (int p : at(x).a) {
            if (p != s) {
                send(x, p, at(x).e.contains(p) ? 9 : 10, m);
            }
        }
    }

    // ---- Promises 2 to 8 ----

    boolean join(int n, int c) {
        if (!valid(n) || !valid(c) || n == c || !at(n).alive || !at(c).alive) {
            return false;
        }
        send(n, c, 1, 0);
        return true;
    }

    boolean shuffle(int n) {
        if (!valid(n) || !at(n).alive || at(n).a.isEmpty()) {
            return false;
        }
        TreeSet<Integer> known = new TreeSet<>(at(n).a);
        known.addAll(at(n).p);
        known.add(n);
        int q = at(n).a.get(0);
        known.remove(q);
        send(n, q, 7, mask(known));
        return true;
    }

    boolean crash(int n) {
        if (!valid(n) || !at(n).alive) {
            return false;
        }
        Node gone = at(n);
        gone.alive = false;
        gone.a.clear();
        gone.p.clear();
        gone.e.clear();
        for (int b = 0; b < 16; b++) {
            gone.ann.get(b).clear();
            gone.t[b] = 0;
        }
        for (int slot = 0; slot < 64; slot++) {
            if (pool[slot] != null && (pool[slot].from == n || pool[slot].to == n)) {
                pool[slot] = null;
            }
        }
        for (int x = 0; x < nodes.size(); x++) {
            if (at(x).alive && at(x).a.contains(n)) {
                at(x).a.remove(Integer.valueOf(n));
                at(x).e.remove(n);
                repair(x);
            }
        }
        return true;
    }

    int broadcast(int n) {
        if (!valid(n) || !at(n).alive || broadcasts == 16) {
            return -1;
        }
        int b = broadcasts++;
        at(n).d.add(b);
        forward(n, -1, 1 << b);
        return b;
    }

    boolean deliver(int slot) {
        if (slot < 0 || slot > 63 || pool[slot] == null) {
            return false;
        }
        Message m = pool[slot];
        pool[slot] = null;
        handle(m.kind, m.from, m.to, m.arg);
        return true;
    }

    private void handle(int k, int x, int y, int a) {
        Node n = at(y);
        if (k == 1) {
            adda(y, x, true);
            for (int p : n.a) {
                if (p != x) {
                    send(y, p, 2, x | 3 << 4);
                }
            }
        } else if (k == 2) {
            forwardJoin(y, x, a & 15, a >> 4 & 15);
        } else if (k == 3) {
            adda(y, x, false);
        } else if (k == 4) {
            if (n.a.contains(x)) {
                n.a.remove(Integer.valueOf(x));
                n.e.remove(x);
                addp(y, x);
            }
        } else if (k == 5) {
            if (a == 1 || n.a.size() < acap) {
                adda(y, x, true);
            } else {
                send(y, x, 6, 0);
            }
        } else if (k == 6) {
            addp(y, x);
            repair(y);
        } else if (k == 7) {
            int r = mask(n.p);
            for (int i : members(a)) {
                addp(y, i);
            }
            send(y, x, 8, r);
        } else if (k == 8) {
            for (int i : members(a)) {
                addp(y, i);
            }
        } else if (k == 9) {
            gossip(y, x, a);
        } else if (k == 10) {
            for (int b : members(a)) {
                if (!n.d.contains(b)) {
                    n.ann.get(b).add(x);
                    if (n.t[b] == 0) {
                        n.t[b] = timeout;
                    }
                }
            }
        } else if (k == 11) {
            if (n.a.contains(x)) {
                n.e.add(x);
            }
            int g = a & mask(n.d);
            if (g != 0) {
                send(y, x, 9, g);
            }
        } else {
            n.e.remove(x);
        }
    }

    private void forwardJoin(int y, int x, int w, int t) {
        Node n = at(y);
        if (t == 0 || n.a.size() <= 1) {
            adda(y, w, true);
            return;
        }
        if (t == 1) {
            addp(y, w);
        }
        for (int p : n.a) {
            if (p != x && p != w) {
                send(y, p, 2, w | t - 1 << 4);
                return;
            }
        }
        adda(y, w, true);
    }

    private void gossip(int y, int x, int a) {
        Node n = at(y);
        List<Integer> g = members(a);
        g.removeAll(n.d);
        if (g.isEmpty()) {
            n.e.remove(x);
            send(y, x, 12, 0);
            return;
        }
        n.d.addAll(g);
        for (int b : g) {
            n.ann.get(b).clear();
            n.t[b] = 0;
        }
        if (n.a.contains(x)) {
            n.e.add(x);
        }
        forward(y, x, mask(g));
    }

    boolean drop(int slot) {
        if (slot < 0 || slot > 63 || pool[slot] == null || pool[slot].kind >= 9) {
            return false;
        }
        pool[slot] = null;
        return true;
    }

    int tick() {
        int grafts = 0;
        for (int y = 0; y < nodes.size(); y++) {
            Node n = at(y);
            for (int b = 0; n.alive && b < 16; b++) {
                if (n.t[b] > 0) {
                    n.t[b]--;
                    if (n.t[b] == 0 && !n.ann.get(b).isEmpty()) {
                        int p = n.ann.get(b).pollFirst();
                        if (n.a.contains(p)) {
                            n.e.add(p);
                        }
                        send(y, p, 11, 1 << b);
                        grafts++;
                        if (!n.ann.get(b).isEmpty()) {
                            n.t[b] = timeout;
                        }
                    }
                }
            }
        }
        return grafts;
    }

    // ---- Promises 9 to 12 ----

    int message(int slot) {
        if (slot < 0 || slot > 63 || pool[slot] == null) {
            return -1;
        }
        Message m = pool[slot];
        return m.kind << 24 | m.from << 20 | m.to << 16 | m.arg;
    }

    int pending() {
        int used = 0;
        for (Message m : pool) {
            used += m == null ? 0 : 1;
        }
        return used;
    }

    int activeAt(int n, int i) {
        return valid(n) && 0 <= i && i < at(n).a.size() ? at(n).a.get(i) : -1;
    }

    int passiveAt(int n, int i) {
        return valid(n) && 0 <= i && i < at(n).p.size() ? at(n).p.get(i) : -1;
    }

    boolean isEager(int n, int p) {
        return valid(n) && valid(p) && at(n).e.contains(p);
    }

    int delivered(int n) {
        return valid(n) ? mask(at(n).d) : 0;
    }

    int graftState(int n, int b) {
        return valid(n) && 0 <= b && b < 16 ? mask(at(n).ann.get(b)) | at(n).t[b] << 16 : 0;
    }

    int lost() {
        return lost;
    }

    boolean isAlive(int n) {
        return valid(n) && at(n).alive;
    }
}
