/** Promises 22 to 34: what would be. Each call must leave what is alone. */
public final class WouldBeTest {
    private static final Due due = new Due();
    private static final int[] FAR = {Integer.MIN_VALUE, -10000, -2, 5001, Integer.MAX_VALUE};

    public static void main(String[] args) {
        victim();
        victims();
        room();
        kept();
        pack();
        wakes();
        ring();
        stir();
        behind();
        turnOf();
        lead();
        logged();
        hot();
        nothingIsDone();
        due.end("WouldBeTest");
    }

    private static TwinOrders four() {
        TwinOrders x = new TwinOrders();
        x.put(1, 0, 10, 0);
        x.get(1);
        x.put(2, 0, 5, 0);
        x.put(3, 0, 12, 0);
        x.put(4, 0, 12, 0);
        x.get(2);
        x.get(2);
        // By use: 1 3 4 2, by count: 3 4 1 2; load 39.
        return x;
    }

    private static void victim() {
        due.part("promise 22");
        TwinOrders x = new TwinOrders();
        for (int way = 0; way < 5; way++) {
            due.is("none", x.victim(way), -1);
        }
        x = four();
        int[] at = {1, 3, 1, 3, 3};
        for (int way = 0; way < 5; way++) {
            due.is("victim(" + way + ")", x.victim(way), at[way]);
        }
        due.is("no such way", x.victim(5), -1);
        due.is("no such way", x.victim(-1), -1);
        for (int far : FAR) {
            due.is("no such way", x.victim(far), -1);
        }
        x.way(2);
        x.put(5, 0, 2, 0);
        due.is("one went by way 2: now by count", x.victim(2), 3);
        x.way(0);
        due.is("by way 2, whatever the way is", x.victim(2), 3);
        for (int key = 1; key <= 5; key++) {
            x.pin(key, true);
        }
        for (int way = 0; way < 5; way++) {
            due.is("none can", x.victim(way), -1);
        }
    }

    private static void victims() {
        due.part("promise 23");
        TwinOrders x = four();
        due.is("none", x.victims(1, -1), 0);
        due.is("none such", x.victims(1, 0), -1);
        due.is("how many", x.victims(40, -1), 4);
        int[][] at = {{1, 3, 4, 2}, {3, 4, 1, 2}, {1, 3, 4, 2}, {3, 4, 1, 2}, {3, 4, 1, 2}};
        for (int way = 0; way < 5; way++) {
            x.way(way);
            for (int k = 0; k < 4; k++) {
                due.is("way " + way + ", victims(40, " + k + ")", x.victims(40, k), at[way][k]);
            }
            due.is("none such", x.victims(40, 4), -1);
        }
        due.is("rejected", x.victims(41, -1), -1);
        due.is("rejected", x.victims(99, 0), -1);
        due.is("can't be", x.victims(0, -1), -1);
        due.is("can't be", x.victims(100, -1), -1);
        due.is("none such", x.victims(40, -2), -1);
        for (int far : FAR) {
            due.is("can't be", x.victims(far, -1), -1);
            due.is("none such", x.victims(40, far), -1);
        }
        x.pin(3, true);
        due.is("pinned above", x.victims(29, -1), -1);
        due.is("pinned stays", x.victims(28, -1), 3);
        x = new TwinOrders();
        x.resize(5000);
        for (int key = 0; key < 60; key++) {
            x.put(key, 0, 1, 0);
        }
        due.is("of sixty one goes", x.victims(1, -1), 1);
        due.is("of sixty one goes", x.victims(1, 0), 0);
        for (int key = 0; key < 60; key++) {
            x.pin(key, true);
        }
        due.is("all pinned", x.victims(1, -1), -1);
    }

    private static void room() {
        due.part("promise 24");
        TwinOrders x = four();
        due.is("room(0)", x.room(0), 40);
        due.is("room(1)", x.room(1), 1);
        x.pin(3, true);
        due.is("room(0)", x.room(0), 28);
        due.is("others", x.room(2), -1);
        due.is("others", x.room(-1), -1);
        for (int far : FAR) {
            due.is("others", x.room(far), -1);
        }
        x.resize(5000);
        due.is("99 at most", x.room(0), 99);
        due.is("99 at most", x.room(1), 99);
        for (int key = 100; key < 156; key++) {
            x.put(key, 0, 1, 0);
        }
        due.is("sixty: one would go", x.room(1), 0);
        due.is("sixty, one may go", x.room(0), 99);
        for (int key = 0; key < 200; key++) {
            x.pin(key, true);
        }
        due.is("sixty, all pinned", x.room(0), 0);
        x = new TwinOrders();
        x.resize(0);
        due.is("cap 0", x.room(0), 0);
        due.is("cap 0", x.room(1), 0);
    }

    private static void kept() {
        due.part("promise 25");
        TwinOrders x = four();
        due.is("all", x.kept(39, -1), 4);
        due.is("how many", x.kept(38, -1), 3);
        due.is("the first", x.kept(38, 0), 3);
        due.is("the last", x.kept(38, 2), 2);
        due.is("none such", x.kept(38, 3), -1);
        due.is("none such", x.kept(38, -2), -1);
        due.is("none", x.kept(0, -1), 0);
        due.is("none", x.kept(0, 0), -1);
        due.is("most", x.kept(5000, -1), 4);
        x.way(1);
        due.is("by count: 3 goes", x.kept(38, 0), 1);
        x.pin(3, true);
        due.is("refused", x.kept(11, -1), -1);
        due.is("pinned alone", x.kept(12, 0), 3);
        due.is("refused", x.kept(-1, -1), -1);
        for (int far : FAR) {
            due.is("refused", x.kept(far, -1), -1);
            due.is("none such", x.kept(30, far), -1);
        }
        due.part("promise 25, listeners do not come in");
        x = four();
        x.listen(2, 1, 0, 1, 0, 1);
        due.is("left of what there is", x.kept(38, -1), 3);
    }

    private static void pack() {
        due.part("promise 26");
        TwinOrders x = new TwinOrders();
        due.is("none", x.pack(5000), 0);
        x = four();
        // Weights 10 5 12 12 with counts 2 3 1 1.
        int[][] at = {{0, 0}, {4, 0}, {5, 3}, {14, 3}, {15, 5}, {26, 5}, {27, 6}, {38, 6}, {39, 7}, {5000, 7}};
        for (int[] a : at) {
            due.is("pack(" + a[0] + ")", x.pack(a[0]), a[1]);
        }
        x.pin(3, true);
        due.is("pinned above", x.pack(11), -1);
        due.is("pinned alone", x.pack(12), 1);
        due.is("and one", x.pack(16), 1);
        due.is("and one", x.pack(17), 4);
        due.is("and two", x.pack(27), 6);
        due.is("all", x.pack(39), 7);
        due.is("can't be", x.pack(-1), -1);
        for (int far : FAR) {
            due.is("can't be", x.pack(far), -1);
        }
        x = new TwinOrders();
        x.resize(5000);
        for (int key = 0; key < 60; key++) {
            x.put(key, 0, 83, 0);
        }
        due.is("full", x.pack(5000), 60);
        due.is("one less", x.pack(60 * 83 - 1), 59);
        x.remove(0);
        x.put(0, 0, 99, 0);
        for (int key = 1; key < 5; key++) {
            x.put(key, 0, 84, 0);
        }
        due.is("as heavy as can be", x.count(1), 5000);
        due.is("all", x.pack(5000), 64);
        due.is("one of the heavy ones that were put once stays out", x.pack(4999), 63);
    }

    private static void wakes() {
        due.part("promise 27");
        TwinOrders x = new TwinOrders();
        due.is("none such", x.wakes(0, 0), -1);
        x.listen(0, 2, 0, 1, 2, 1);   // 0: puts even keys
        x.listen(1, 2, 1, 2, 0, 0);   // 1: gets odd keys
        x.listen(5, 4, 1, 3, 3, 0);   // 2: removes keys of 0 by 4
        x.listen(4, 8, 5, 6, -1, 0);  // 3: makes cap less
        x.listen(2, 3, 1, 6, 1, 0);   // 4: makes cap more
        x.listen(-1, 7, 6, 4, 0, 0);  // 5: pins
        x.listen(4, 8, 4, 5, 0, 0);   // 6: unpins
        x.listen(6, 2, 1, 0, 0, 0);   // 7: nothing
        int[][] at = {
            {1, 0, 0, 0, 1, 1, 0, 0},
            {0, 0, 1, 0, 0, 1, 0, 0},
            {0, 0, 0, 0, 0, 1, 1, 0},
            {0, 0, 0, 0, 1, 1, 0, 0},
            {0, 0, 0, 0, 0, 0, 0, 0},
            {0, 0, 0, 0, 0, 0, 0, 0},
            {0, 0, 0, 0, 0, 0, 0, 0},
            {0, 0, 0, 0, 0, 0, 0, 0}};
        x.turn(4, false);
        for (int a = 0; a < 8; a++) {
            for (int b = 0; b < 8; b++) {
                due.is("wakes(" + a + ", " + b + ")", x.wakes(a, b), at[a][b]);
            }
        }
        due.is("none such", x.wakes(0, 8), -1);
        due.is("none such", x.wakes(-1, 0), -1);
        for (int far : FAR) {
            due.is("none such", x.wakes(far, 0), -1);
            due.is("none such", x.wakes(0, far), -1);
        }
        due.part("promise 27, from 999 to 0");
        x = new TwinOrders();
        x.listen(5, 9, 0, 2, 1, 0);
        due.is("999 leaves 0 by 9, and 0 does", x.wakes(0, 0), 1);
        x.listen(5, 7, 0, 2, 1, 0);
        due.is("999 leaves 5 by 7", x.wakes(1, 1), 0);
        x.listen(5, 7, 1, 2, -2, 0);
        // 1 and 2 less is 999, which leaves 5 by 7, as 1 less 2 leaves 6; neither is 1.
        due.is("down", x.wakes(2, 2), 0);
        x.listen(5, 7, 5, 0, 0, 0);
        due.is("down", x.wakes(2, 3), 1);
        x.listen(1, 5, 2, 1, 0, 1);
        x.listen(6, 5, 3, 1, 0, 1);
        due.is("a put of the same key changes it", x.wakes(4, 4), 1);
        due.is("another rest", x.wakes(4, 5), 0);
        x.listen(2, 1, 0, 6, 0, 0);
        due.is("cap as it is evicts nothing", x.wakes(6, 6), 0);
    }

    private static void ring() {
        due.part("promise 28");
        TwinOrders x = new TwinOrders();
        due.is("none such", x.ring(0), -1);
        x.listen(5, 1, 0, 3, 0, 0);  // 0: missed, removes: wakes 1
        x.listen(4, 1, 0, 1, 0, 1);  // 1: removed, puts: wakes 2
        x.listen(0, 1, 0, 2, 0, 0);  // 2: came, gets: wakes 0
        x.listen(3, 1, 0, 2, 0, 0);  // 3: expired, gets: wakes 0, none wakes it
        x.listen(2, 1, 0, 6, -1, 0); // 4: evicted, cap less: wakes itself
        x.listen(6, 1, 0, 0, 0, 0);  // 5: nothing
        int[] at = {3, 3, 3, 0, 1, 0};
        for (int n = 0; n < 6; n++) {
            due.is("ring(" + n + ")", x.ring(n), at[n]);
        }
        x.turn(2, false);
        due.is("on or not", x.ring(0), 3);
        x.listen(0, 1, 0, 2, 1, 0);
        x.listen(5, 1, 0, 1, 0, 1);  // 7: missed, puts: wakes 2 and 6
        due.is("two steps", x.ring(7), 2);
        due.is("two steps", x.ring(2), 2);
        due.is("still three", x.ring(1), 3);
        due.is("none such", x.ring(8), -1);
        due.is("none such", x.ring(-1), -1);
        for (int far : FAR) {
            due.is("none such", x.ring(far), -1);
        }
        due.part("promise 28, all eight");
        x = new TwinOrders();
        for (int n = 0; n < 8; n++) {
            x.listen(5, 8, n, 2, 1, 0);
        }
        // 1000 is a multiple of 8, so from 7 one comes to 0.
        for (int n = 0; n < 8; n++) {
            due.is("ring(" + n + ")", x.ring(n), 8);
        }
    }

    private static void stir() {
        due.part("promise 29");
        TwinOrders x = four();
        x.listen(2, 1, 0, 2, 100, 0);
        x.listen(5, 1, 0, 6, 1, 0);
        // Key 9 of 11 comes: 1 goes; 101 is missed; cap is one more.
        int[][] at = {{2, 1, 0}, {0, 9, 0}, {5, 101, 1}};
        due.is("heard", x.stir(9, 11, -1, 0), 3);
        due.is("lost", x.stir(9, 11, -1, 1), 0);
        due.is("entries", x.stir(9, 11, -1, 2), 4);
        for (int k = 0; k < 3; k++) {
            for (int what = 0; what < 3; what++) {
                due.is("stir(9, 11, " + k + ", " + what + ")", x.stir(9, 11, k, what), at[k][what]);
            }
        }
        due.is("none such", x.stir(9, 11, 3, 0), -1);
        due.is("none such", x.stir(9, 11, -2, 0), -1);
        due.is("others", x.stir(9, 11, 0, 3), -1);
        due.is("others", x.stir(9, 11, -1, 3), -1);
        due.is("others", x.stir(9, 11, -1, -1), -1);
        due.is("no key", x.stir(1000, 11, -1, 0), -1);
        due.is("no weight", x.stir(9, 100, -1, 0), -1);
        for (int far : FAR) {
            due.is("no key", x.stir(far, 11, -1, 0), -1);
            due.is("no weight", x.stir(9, far, -1, 0), -1);
            due.is("none such", x.stir(9, 11, far, 0), -1);
            due.is("others", x.stir(9, 11, 0, far), -1);
        }
        due.is("rejected is heard", x.stir(9, 99, 0, 0), 6);
        due.is("nothing is done", x.count(2), 40);
        due.is("nothing is done", x.listener(0, 1), 0);
        x = new TwinOrders();
        x.listen(0, 1, 0, 2, 1, 0);
        x.listen(5, 1, 0, 2, 1, 0);
        x.listen(5, 1, 0, 2, 2, 0);
        due.is("heard", x.stir(9, 1, -1, 0), 100);
        due.is("the deepest", x.stir(9, 1, 99, 2), 7);
        // One came, 1 + 2 * 99 are missed.
        due.is("lost", x.stir(9, 1, -1, 1), 1 + 1 + 2 * 99 - 100);
        due.is("nothing is lost", x.count(14), 0);
        due.is("no request", x.count(15), 0);
    }

    private static void behind() {
        due.part("promise 30");
        TwinOrders x = four();
        // Uses are 7; counts: 3 1, 4 1, 1 2, 2 3.
        due.is("count", x.behind(3, 1, 0), 2);
        due.is("place", x.behind(3, 1, 1), 2);
        due.is("place", x.behind(3, 2, 1), 3);
        due.is("halved", x.behind(3, 92, 2), 0);
        due.is("halved", x.behind(3, 93, 2), 1);
        due.is("count", x.behind(3, 93, 0), 47);
        due.is("count", x.behind(3, 99, 0), 53);
        x.aging(1);
        due.is("halved each time", x.behind(3, 99, 2), 99);
        due.is("one at least", x.behind(3, 99, 0), 1);
        due.is("all are 1 then, 3 is used last", x.behind(3, 99, 1), 3);
        due.is("too few", x.behind(3, 0, 0), -1);
        due.is("too many", x.behind(3, 100, 0), -1);
        due.is("none such", x.behind(9, 1, 0), -1);
        due.is("none such", x.behind(-1, 1, 0), -1);
        due.is("others", x.behind(3, 1, 3), -1);
        due.is("others", x.behind(3, 1, -1), -1);
        for (int far : FAR) {
            due.is("none such", x.behind(far, 1, 0), -1);
            due.is("n", x.behind(3, far, 0), -1);
            due.is("others", x.behind(3, 1, far), -1);
        }
        due.is("nothing is done", x.count(5), 7);
        x.aging(8);
        x.get(4);
        due.is("halved so far", x.count(17), 1);
        due.is("those of before are aside", x.behind(3, 8, 2), 1);
    }

    private static void turnOf() {
        due.part("promise 31");
        TwinOrders x = four();
        int[][] at = {{0, 3, 1, 2}, {2, 3, 0, 1}, {0, 3, 1, 2}, {2, 3, 0, 1}, {2, 3, 0, 1}};
        for (int way = 0; way < 5; way++) {
            x.way(way);
            for (int key = 1; key <= 4; key++) {
                due.is("way " + way + ", turnOf(" + key + ")", x.turnOf(key), at[way][key - 1]);
            }
        }
        x.way(0);
        x.pin(1, true);
        due.is("pinned", x.turnOf(1), -1);
        due.is("pinned ones are passed over", x.turnOf(3), 0);
        due.is("none such", x.turnOf(9), -1);
        due.is("none such", x.turnOf(-1), -1);
        for (int far : FAR) {
            due.is("none such", x.turnOf(far), -1);
        }
    }

    private static void lead() {
        due.part("promise 32");
        TwinOrders x = four();
        int[][] at = {{0, 10, 22, 34, 39, 39}, {0, 12, 24, 34, 39, 39}};
        for (int order = 0; order < 2; order++) {
            for (int n = 0; n < 6; n++) {
                due.is("lead(" + order + ", " + n + ")", x.lead(order, n), at[order][n]);
            }
            due.is("all", x.lead(order, Integer.MAX_VALUE), 39);
            due.is("can't be", x.lead(order, -1), -1);
            due.is("can't be", x.lead(order, Integer.MIN_VALUE), -1);
        }
        due.is("no order", x.lead(2, 1), -1);
        due.is("no order", x.lead(-1, 1), -1);
        for (int far : FAR) {
            due.is("no order", x.lead(far, 1), -1);
        }
    }

    private static void logged() {
        due.part("promise 33");
        TwinOrders x = new TwinOrders();
        x.listen(5, 2, 0, 2, 1, 0);
        x.get(4);
        x.get(6);
        x.put(5, 0, 1, 0);
        x.get(4);
        due.is("missed", x.logged(5, 0), 5);
        due.is("deepest", x.logged(5, 1), 1);
        due.is("that none heard", x.logged(5, 2), 2);
        due.is("came", x.logged(0, 0), 1);
        due.is("deepest", x.logged(0, 1), 0);
        due.is("that none heard", x.logged(0, 2), 1);
        due.is("none", x.logged(3, 0), 0);
        due.is("none", x.logged(3, 1), -1);
        due.is("none", x.logged(3, 2), 0);
        due.is("no kind", x.logged(7, 0), -1);
        due.is("no kind", x.logged(-1, 0), -1);
        due.is("others", x.logged(0, 3), -1);
        due.is("others", x.logged(0, -1), -1);
        for (int far : FAR) {
            due.is("no kind", x.logged(far, 0), -1);
            due.is("others", x.logged(0, far), -1);
        }
        for (int i = 0; i < 39; i++) {
            x.put(5, 0, 1, 0);
        }
        due.is("the latest 40 alone", x.logged(5, 0), 1);
        due.is("the latest 40 alone", x.logged(5, 1), 0);
        due.is("the latest 40 alone", x.logged(1, 0), 39);
    }

    private static void hot() {
        due.part("promise 34");
        TwinOrders x = new TwinOrders();
        due.is("none", x.hot(-1, 0), 0);
        due.is("none such", x.hot(0, 0), -1);
        for (int key : new int[] {7, 3, 9, 3, 7, 1, 7, 9, 2}) {
            x.get(key);
        }
        int[][] at = {{7, 3}, {3, 2}, {9, 2}, {1, 1}, {2, 1}};
        for (int k = 0; k < 5; k++) {
            due.is("hot(" + k + ", 0)", x.hot(k, 0), at[k][0]);
            due.is("hot(" + k + ", 1)", x.hot(k, 1), at[k][1]);
            due.is("others", x.hot(k, 2), -1);
            due.is("others", x.hot(k, -1), -1);
        }
        due.is("unlike", x.hot(-1, 0), 5);
        due.is("whatever what", x.hot(-1, 77), 5);
        due.is("none such", x.hot(5, 0), -1);
        for (int far : FAR) {
            due.is("none such", x.hot(far, 0), -1);
            due.is("others", x.hot(0, far), -1);
        }
        for (int key = 100; key < 200; key++) {
            x.get(key);
        }
        due.is("a hundred", x.hot(-1, 0), 100);
        due.is("the last", x.hot(99, 0), 199);
        due.is("none such", x.hot(100, 0), -1);
    }

    private static void nothingIsDone() {
        due.part("what would be leaves what is alone");
        TwinOrders x = new TwinOrders();
        TwinOrders y = new TwinOrders();
        for (TwinOrders z : new TwinOrders[] {x, y}) {
            z.way(2);
            z.aging(13);
            z.listen(2, 1, 0, 1, 7, 2);
            z.listen(5, 3, 0, 6, -1, 0);
            z.chance(5, 60);
        }
        x.victim(4);
        x.victims(20, -1);
        x.room(0);
        x.kept(3, -1);
        x.pack(9);
        x.wakes(0, 0);
        x.ring(0);
        x.stir(3, 30, -1, 0);
        for (int key = 0; key < 40; key++) {
            x.behind(key, 50, 0);
            x.turnOf(key);
        }
        x.agree(5, -1);
        x.regret(2, 4, 0);
        x.replay(5, 9, 0);
        x.least(4, 10);
        x.best(7, 0);
        for (int what = 0; what < 20; what++) {
            due.is("count(" + what + ")", x.count(what), y.count(what));
        }
        for (int k = 0; k < 60; k++) {
            due.is("order", x.order(1, k), y.order(1, k));
            due.is("order", x.order(0, k), y.order(0, k));
            due.is("ghost", x.ghost(0, k), y.ghost(0, k));
            due.is("heard", x.heard(k, 1), y.heard(k, 1));
            due.is("request", x.request(k), y.request(k));
        }
        due.is("chance", x.chance(6, 60), y.chance(6, 60));
        due.is("balance", x.count(4), y.count(4));
    }
}
