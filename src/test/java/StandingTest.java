/** Promises 15 to 21 and 43: what there is. */
public final class StandingTest {
    private static final Due due = new Due();
    private static final int[] FAR = {Integer.MIN_VALUE, -10000, -2, 1000, 5001, Integer.MAX_VALUE};

    public static void main(String[] args) {
        entry();
        order();
        ghost();
        bucket();
        listener();
        heard();
        request();
        count();
        due.end("StandingTest");
    }

    private static TwinOrders five() {
        TwinOrders x = new TwinOrders();
        x.put(10, -5, 3, 8);
        x.put(20, 6, 4, 0);
        x.put(30, 7, 5, 0);
        x.get(10);
        x.get(10);
        x.get(20);
        x.put(40, 0, 6, 0);
        x.put(50, 0, 7, 0);
        x.pin(20, true);
        return x;
    }

    private static void entry() {
        due.part("promise 15");
        TwinOrders x = five();
        // By use: 30 10 20 40 50; by count: 30 40 50 20 10.
        int[] of10 = {-5, 3, 3, 5, 8, 0, 1, 4};
        int[] of20 = {6, 4, 2, 6, -1, 1, 2, 3};
        for (int what = 0; what < 8; what++) {
            due.is("entry(10, " + what + ")", x.entry(10, what), of10[what]);
            due.is("entry(20, " + what + ")", x.entry(20, what), of20[what]);
            due.is("none such", x.entry(11, what), -10000);
            due.is("no key", x.entry(-1, what), -10000);
        }
        due.is("others", x.entry(10, 8), -10000);
        due.is("others", x.entry(10, -1), -10000);
        for (int far : FAR) {
            due.is("others", x.entry(10, far), -10000);
            due.is("no key", x.entry(far, 0), -10000);
        }
    }

    private static void order() {
        due.part("promise 16");
        TwinOrders x = five();
        int[] byUse = {30, 10, 20, 40, 50};
        int[] byCount = {30, 40, 50, 20, 10};
        for (int k = 0; k < 5; k++) {
            due.is("order(0, " + k + ")", x.order(0, k), byUse[k]);
            due.is("order(1, " + k + ")", x.order(1, k), byCount[k]);
        }
        for (int o = 0; o < 2; o++) {
            due.is("none such", x.order(o, 5), -1);
            due.is("none such", x.order(o, -1), -1);
        }
        due.is("no order", x.order(2, 0), -1);
        due.is("no order", x.order(-1, 0), -1);
        for (int far : FAR) {
            due.is("no order", x.order(far, 0), -1);
            due.is("none such", x.order(0, far), -1);
        }
        // Halving brings like counts, which are then by use.
        x.aging(9);
        x.get(50);
        int[] halved = {30, 10, 20, 40, 50};
        for (int k = 0; k < 5; k++) {
            due.is("halved", x.order(1, k), halved[k]);
        }
    }

    private static void ghost() {
        due.part("promise 17");
        TwinOrders x = five();
        x.resize(4);
        due.is("young", x.ghost(0, 0), 50);
        due.is("young", x.ghost(0, 1), 40);
        due.is("young", x.ghost(0, 2), 30);
        due.is("none such", x.ghost(0, 3), -1);
        due.is("old", x.ghost(1, 0), 10);
        due.is("none such", x.ghost(1, 1), -1);
        due.is("none such", x.ghost(0, -1), -1);
        due.is("no sort", x.ghost(-1, 0), -1);
        for (int far : FAR) {
            due.is("no sort", x.ghost(far, 0), -1);
            due.is("none such", x.ghost(1, far), -1);
        }
        x.resize(40);
        for (int key = 100; key < 120; key++) {
            x.put(key, 0, 1, 0);
            x.get(key);
        }
        x.resize(4);
        due.is("16 old ones", x.ghost(1, 15), 104);
        due.is("16 old ones", x.ghost(1, 16), -1);
        due.is("young ones stay", x.ghost(0, 0), 50);
    }

    private static void bucket() {
        due.part("promise 18");
        TwinOrders x = new TwinOrders();
        due.is("none", x.bucket(-1, 0), 0);
        x = five();
        int[][] at = {{3, 1, 18}, {1, 2, 4}, {1, 3, 3}};
        due.is("unlike counts", x.bucket(-1, 0), 3);
        due.is("whatever what", x.bucket(-1, 99), 3);
        for (int k = 0; k < 3; k++) {
            for (int what = 0; what < 3; what++) {
                due.is("bucket(" + k + ", " + what + ")", x.bucket(k, what), at[k][what]);
            }
            due.is("others", x.bucket(k, 3), -1);
            due.is("others", x.bucket(k, -1), -1);
        }
        due.is("none such", x.bucket(3, 0), -1);
        for (int far : FAR) {
            due.is("none such", x.bucket(far, 0), -1);
            due.is("others", x.bucket(0, far), -1);
        }
    }

    private static void listener() {
        due.part("promise 19");
        TwinOrders x = new TwinOrders();
        due.is("none such", x.listener(0, 0), -1);
        x.listen(0, 2, 0, 3, 0, 0);
        x.listen(4, 1, 0, 0, 0, 0);
        x.put(2, 0, 1, 0);
        x.put(3, 0, 1, 0);
        x.turn(1, false);
        x.put(4, 0, 1, 0);
        int[][] at = {{1, 2, 2}, {0, 1, 0}};
        for (int n = 0; n < 2; n++) {
            for (int what = 0; what < 3; what++) {
                due.is("listener(" + n + ", " + what + ")", x.listener(n, what), at[n][what]);
            }
            due.is("others", x.listener(n, 3), -1);
            due.is("others", x.listener(n, -1), -1);
        }
        due.is("none such", x.listener(2, 0), -1);
        due.is("none such", x.listener(-1, 0), -1);
        for (int far : FAR) {
            due.is("none such", x.listener(far, 0), -1);
            due.is("others", x.listener(0, far), -1);
        }
    }

    private static void heard() {
        due.part("promise 20");
        TwinOrders x = new TwinOrders();
        due.is("none such", x.heard(0, 0), -1);
        x.listen(-1, 1, 0, 0, 0, 0);
        x.listen(5, 1, 0, 1, 1, 2);
        x.put(1, 0, 9, 0);
        x.put(1, 0, 8, 0);
        x.put(2, 0, 50, 0);
        x.get(7);
        x.put(3, 0, 37, 3);
        x.tick(3);
        x.remove(8);
        // kind, key, depth, weight, heard by; the latest first.
        int[][] at = {{4, 8, 0, 2, 1}, {3, 3, 0, 37, 1}, {0, 3, 0, 37, 1}, {2, 1, 0, 8, 1}, {0, 8, 1, 2, 1},
            {5, 7, 0, 0, 2}, {6, 2, 0, 50, 1}, {1, 1, 0, 8, 1}, {0, 1, 0, 9, 1}};
        for (int k = 0; k < at.length; k++) {
            for (int what = 0; what < 5; what++) {
                due.is("heard(" + k + ", " + what + ")", x.heard(k, what), at[k][what]);
            }
            due.is("others", x.heard(k, 5), -1);
            due.is("others", x.heard(k, -1), -1);
        }
        due.is("none such", x.heard(at.length, 0), -1);
        due.is("none such", x.heard(-1, 0), -1);
        for (int far : FAR) {
            due.is("none such", x.heard(far, 0), -1);
            due.is("others", x.heard(0, far), -1);
        }
        for (int i = 0; i < 50; i++) {
            x.get(500 + i);
        }
        // Each of these is missed and puts another: the log holds the latest 40 of 100 or more.
        due.is("the latest", x.heard(0, 0), 0);
        due.is("forty", x.heard(39, 0) >= 0 ? 1 : 0, 1);
        due.is("forty", x.heard(40, 0), -1);
    }

    private static void request() {
        due.part("promise 21");
        TwinOrders x = new TwinOrders();
        due.is("none such", x.request(0), -1);
        x.put(1, 0, 99, 0);
        x.get(2);
        x.put(3, 0, 1, 0);
        due.is("rejected, too", x.request(0), 1);
        due.is("missed, too", x.request(1), 2);
        due.is("there", x.request(2), 3);
        due.is("none such", x.request(3), -1);
        for (int i = 0; i < 98; i++) {
            x.get(100 + i);
        }
        due.is("a hundred", x.count(15), 100);
        due.is("the eldest went", x.request(0), 2);
        due.is("the latest", x.request(99), 197);
        due.is("none such", x.request(100), -1);
        due.is("none such", x.request(-1), -1);
        for (int far : FAR) {
            due.is("none such", x.request(far), -1);
        }
    }

    private static void count() {
        due.part("promise 43");
        TwinOrders x = new TwinOrders();
        x.resize(20);
        x.way(2);
        x.aging(4);
        x.listen(5, 2, 0, 2, 1, 0);
        x.put(1, 0, 10, 5);
        x.put(2, 0, 10, 0);
        x.put(3, 0, 9, 0);
        x.put(1, 0, 8, 0);
        x.get(3);
        x.get(6);
        x.put(9, 0, 21, 0);
        x.pin(3, true);
        x.tick(7);
        x.put(5, 0, 1, 2);
        x.tick(2);
        // 3 by use: 1 goes for 3; for 1, a ghost of the young: 2 goes by count. 3 and 1 are left.
        int[] at = {2, 17, 20, 2, 8, 6, 9, 4, 1, 1, 2, 2, 1, 1, 0, 8, 9, 1, 2, 1};
        for (int what = 0; what < at.length; what++) {
            due.is("count(" + what + ")", x.count(what), at[what]);
        }
        due.is("others", x.count(20), -1);
        due.is("others", x.count(-1), -1);
        for (int far : FAR) {
            due.is("others", x.count(far), -1);
        }
    }
}
