/** Stores to begin a test with. */
final class Make {
    static final int[] FAR = {Integer.MIN_VALUE, -10000, 10000, Integer.MAX_VALUE};

    private Make() { }

    /** A store with a cap and entries, key and weight by turns, all put once. */
    static TwinOrders store(int cap, int... keysAndWeights) {
        TwinOrders x = new TwinOrders();
        x.resize(cap);
        for (int i = 0; i + 1 < keysAndWeights.length; i += 2) {
            x.put(keysAndWeights[i], 0, keysAndWeights[i + 1], 0);
        }
        return x;
    }

    /** Entries of weight 1 with the keys 0, 1 and on, cap 5000. */
    static TwinOrders many(int n) {
        TwinOrders x = new TwinOrders();
        x.resize(5000);
        for (int key = 0; key < n; key++) {
            x.put(key, 0, 1, 0);
        }
        return x;
    }

    static void pinAll(TwinOrders x, int from, int to) {
        for (int key = from; key <= to; key++) {
            x.pin(key, true);
        }
    }

    static void getAll(TwinOrders x, int... keys) {
        for (int key : keys) {
            x.get(key);
        }
    }

    /** Requests alone: each is missed. */
    static TwinOrders asked(int... keys) {
        TwinOrders x = new TwinOrders();
        getAll(x, keys);
        return x;
    }

    /** No entries, a balance of 1 .. cap, and 901 a young ghost. */
    static TwinOrders balanced(int cap, int balance) {
        TwinOrders x = store(balance, 900, balance, 901, balance, 900, balance);
        x.remove(900);
        x.resize(cap);
        return x;
    }

    /** A bit of everything: listeners, ghosts of both sorts, pins, tills, a balance, what was lost and deep. */
    static TwinOrders rich() {
        TwinOrders x = new TwinOrders();
        enrich(x);
        return x;
    }

    static void enrich(TwinOrders x) {
        x.resize(90);
        x.aging(11);
        x.way(4);
        x.listen(2, 3, 1, 1, 5, 2);
        x.listen(5, 2, 1, 2, 1, 0);
        x.listen(-1, 5, 4, 6, -1, 0);
        x.listen(0, 4, 3, 4, 0, 0);
        x.turn(2, false);
        x.chance(99, 60);
        x.put(7, 70, 9, 30);
        x.put(8, 80, 9, 40);
        x.tick(3);
        x.way(2);
        x.chance(100, 60);
        x.turn(2, true);
        // A tree of misses, so that something is lost and deep; then something expires.
        x.listen(5, 1, 0, 2, 41, 0);
        x.listen(5, 1, 0, 2, 43, 0);
        x.get(43);
        x.turn(4, false);
        x.turn(5, false);
        x.put(9, 90, 5, 1);
        x.tick(1);
        x.put(11, 0, 99, 0);
        x.aging(999);
        x.put(60, 6, 5, 0);
        x.get(60);
        x.resize(x.count(16));
        x.resize(95);
        x.put(61, 6, 5, 70);
        x.put(62, 6, 5, 0);
    }

    /** All that can be asked of what there is, in one text: two objects alike have the same one. */
    static String all(TwinOrders x) {
        StringBuilder text = new StringBuilder();
        for (int what = 0; what < 20; what++) {
            text.append(x.count(what)).append(' ');
        }
        for (int k = 0; k < 100; k++) {
            text.append(x.request(k)).append(' ');
        }
        for (int k = 0; k < 60; k++) {
            int key = x.order(0, k);
            text.append(key).append(' ').append(x.order(1, k)).append(' ');
            text.append(x.ghost(0, k)).append(' ').append(x.ghost(1, k)).append(' ');
            for (int what = 0; what < 8; what++) {
                text.append(x.entry(key, what)).append(' ').append(x.heard(k, what)).append(' ');
                text.append(x.listener(k, what)).append(' ');
            }
        }
        for (int n = 0; n < 64; n++) {
            text.append(x.wakes(n / 8, n % 8)).append(' ');
        }
        return text.toString();
    }
}
