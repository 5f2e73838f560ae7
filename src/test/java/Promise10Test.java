/** Promise 10: activeAt and passiveAt. */
public final class Promise10Test {
    private static final int[] NOT_PLACES = {Integer.MIN_VALUE, -5, -4, -1, 8, 9, 16, Integer.MAX_VALUE};

    public static void main(String[] args) {
        GossipOverlay g = new GossipOverlay(16, 4, 8, 2);
        Kit.see(g, 7, 1, 2, 3, 4, 5, 6);
        // Neighbours in the numbering, so that a slip from row to row would show.
        Kit.see(g, 6, 8);
        Kit.see(g, 8, 9, 10, 11, 12, 13);
        String before = Kit.all(g);
        int[] active = {3, 4, 5, 6};
        int[] passive = {1, 2};
        for (int i = 0; i < 12; i++) {
            Kit.due("activeAt(7, " + i + ")", g.activeAt(7, i), i < 4 ? active[i] : -1);
            Kit.due("passiveAt(7, " + i + ")", g.passiveAt(7, i), i < 2 ? passive[i] : -1);
            Kit.due("activeAt(6, " + i + ")", g.activeAt(6, i), i == 0 ? 8 : -1);
            Kit.due("passiveAt(6, " + i + ")", g.passiveAt(6, i), -1);
            Kit.due("activeAt(0, " + i + ")", g.activeAt(0, i), -1);
        }
        for (int n = 0; n < 16; n++) {
            for (int i : NOT_PLACES) {
                Kit.due("activeAt(" + n + ", " + i + ")", g.activeAt(n, i), -1);
                Kit.due("passiveAt(" + n + ", " + i + ")", g.passiveAt(n, i), -1);
            }
        }
        for (int n : Kit.NOT_NODES_OF_16) {
            Kit.due("activeAt(" + n + ", 0)", g.activeAt(n, 0), -1);
            Kit.due("passiveAt(" + n + ", 0)", g.passiveAt(n, 0), -1);
            Kit.due("activeAt(" + n + ", " + n + ")", g.activeAt(n, n), -1);
            Kit.due("passiveAt(" + n + ", " + n + ")", g.passiveAt(n, n), -1);
        }
        Kit.due("the state", Kit.all(g), before);

        g.crash(7);
        for (int i = 0; i < 8; i++) {
            Kit.due("activeAt(7, " + i + ") after the crash", g.activeAt(7, i), -1);
            Kit.due("passiveAt(7, " + i + ") after the crash", g.passiveAt(7, i), -1);
        }

        lastNode();
        Kit.end();
    }

    private static void lastNode() {
        GossipOverlay g = new GossipOverlay(16, 4, 8, 2);
        Kit.see(g, 15, 0, 1, 2, 3, 4, 5, 6, 7, 8, 9, 10, 11);
        Kit.due("activeAt(15, 3)", g.activeAt(15, 3), 11);
        Kit.due("activeAt(15, 4)", g.activeAt(15, 4), -1);
        Kit.due("passiveAt(15, 0)", g.passiveAt(15, 0), 0);
        Kit.due("passiveAt(15, 7)", g.passiveAt(15, 7), 7);
        Kit.due("passiveAt(15, 8)", g.passiveAt(15, 8), -1);
    }
}
