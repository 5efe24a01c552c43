/** Promises 35 to 42: the requests of late gone through anew. */
public final class AnewTest {
    private static final Due due = new Due();
    private static final int[] FAR = {Integer.MIN_VALUE, -10000, -2, 61, 5001, Integer.MAX_VALUE};

    public static void main(String[] args) {
        distanceAndProfile();
        replay();
        replayed();
        future();
        regret();
        agree();
        least();
        best();
        ofLate();
        due.end("AnewTest");
    }

    private static TwinOrders asked(int... keys) {
        TwinOrders x = new TwinOrders();
        for (int key : keys) {
            x.get(key);
        }
        return x;
    }

    private static void distanceAndProfile() {
        due.part("promises 35, 38");
        TwinOrders x = asked(1, 1, 2, 3, 2, 2, 1, 4, 3);
        int[] at = {-1, 0, -1, -1, 1, 0, 2, -1, 3};
        for (int k = 0; k < at.length; k++) {
            due.is("distance(" + k + ")", x.distance(k), at[k]);
        }
        due.is("none such", x.distance(9), -1);
        due.is("none such", x.distance(-1), -1);
        due.is("asked first of all", asked(1, 2, 1).profile(1), 1);
        due.is("asked first of all", asked(1, 2, 1).profile(-1), 2);
        int[] profile = {4, 2, 1, 1, 1, 0};
        for (int d = -1; d < 5; d++) {
            due.is("profile(" + d + ")", x.profile(d), profile[d + 1]);
        }
        for (int far : FAR) {
            due.is("none such", x.distance(far), -1);
            due.is("others", x.profile(far), 0);
        }
        due.is("none at all", new TwinOrders().profile(-1), 0);
    }

    private static void replay() {
        due.part("promise 39");
        // By use with 2: 1 2 | 1 hit | 3 (2 goes) | 2 (1 goes) | 1 (3 goes) | 1 hit
        TwinOrders x = asked(1, 2, 1, 3, 2, 1, 1);
        int[][] at = {
            {2, 3, 2},   // by use
            {3, 2, 2},   // by count: 2 goes for 3, 3 goes for 2, 1 stays
            {3, 2, 2},   // by turns: 2 goes by use, 3 goes by count, 1 is a hit twice
            {2, 3, 2},   // all weigh 1: by use
            {2, 3, 2},   // 2, young, goes for 3; it makes balance 1, so 1, old, goes for it; then 3
            {3, 2, 2}};  // by what comes: 1 goes for 3, 2 for 1
        for (int way = 0; way < 6; way++) {
            for (int what = 0; what < 3; what++) {
                due.is("replay(" + way + ", 2, " + what + ")", x.replay(way, 2, what), at[way][what]);
            }
            due.is("cap 0: all rejected", x.replay(way, 0, 0), 0);
            due.is("cap 0: none goes", x.replay(way, 0, 1), 0);
            due.is("cap 0: none is there", x.replay(way, 0, 2), 0);
            due.is("cap 1", x.replay(way, 1, 0), 1);
            due.is("cap 1", x.replay(way, 1, 1), 5);
            due.is("cap 60", x.replay(way, 60, 0), 4);
            due.is("cap 60", x.replay(way, 60, 2), 3);
            due.is("others", x.replay(way, 61, 0), -1);
            due.is("others", x.replay(way, -1, 0), -1);
            due.is("others", x.replay(way, 2, 3), -1);
            due.is("others", x.replay(way, 2, -1), -1);
        }
        due.is("others", x.replay(6, 2, 0), -1);
        due.is("others", x.replay(-1, 2, 0), -1);
        for (int far : FAR) {
            due.is("others", x.replay(far, 2, 0), -1);
            due.is("others", x.replay(0, far, 0), -1);
            due.is("others", x.replay(0, 2, far), -1);
        }
        due.part("promise 39, on paper from the start");
        due.is("five go by turns", x.replay(2, 1, 1), 5);
        due.is("and the turns begin anew", x.replay(2, 2, 0), 3);
        // The store's own way, balance, turns, pins and caps do not come in.
        TwinOrders y = new TwinOrders();
        y.way(2);
        y.resize(1);
        y.aging(1);
        y.put(500, 0, 1, 0);
        y.put(501, 0, 1, 0);
        y.pin(501, true);
        y.listen(-1, 1, 0, 3, 0, 0);
        for (int key : new int[] {1, 2, 1, 3, 2, 1, 1}) {
            y.get(key);
        }
        due.is("two more requests ahead", y.replay(2, 2, 0), 3);
        due.is("by use", y.replay(0, 2, 0), 2);
    }

    private static void replayed() {
        due.part("promise 40");
        TwinOrders x = asked(1, 2, 1, 3, 2, 1, 1);
        due.is("by use", x.replayed(0, 2, 0), 2);
        due.is("by use", x.replayed(0, 2, 1), 1);
        due.is("none such", x.replayed(0, 2, 2), -1);
        due.is("none such", x.replayed(0, 2, -1), -1);
        due.is("cap 3, by use", x.replayed(1, 3, 0), 3);
        due.is("cap 3, by use", x.replayed(1, 3, 1), 2);
        due.is("cap 3, by use", x.replayed(1, 3, 2), 1);
        due.is("cap 0", x.replayed(0, 0, 0), -1);
        due.is("no way", x.replayed(6, 2, 0), -1);
        due.is("no cap", x.replayed(0, 61, 0), -1);
        for (int far : FAR) {
            due.is("no way", x.replayed(far, 2, 0), -1);
            due.is("no cap", x.replayed(0, far, 0), -1);
            due.is("none such", x.replayed(0, 2, far), -1);
        }
    }

    private static void future() {
        due.part("way 5");
        // For 4 with 3: 1 comes next, then 3, 2 is farthest.
        TwinOrders x = asked(1, 2, 3, 4, 1, 3, 2);
        due.is("hits", x.replay(5, 3, 0), 2);
        // For 2 with 3: 4, 1, 3 none comes again, so the least key, 1, goes.
        due.is("there at the end", x.replayed(5, 3, 0), 4);
        due.is("there at the end", x.replayed(5, 3, 1), 3);
        due.is("there at the end", x.replayed(5, 3, 2), 2);
        // One that never comes again is farther than any: 9 goes for 4.
        x = asked(9, 5, 4, 5, 4, 7);
        due.is("hits", x.replay(5, 2, 0), 2);
        due.is("of 5, 4 the least key goes", x.replayed(5, 2, 0), 5);
        due.is("and 7", x.replayed(5, 2, 1), 7);
    }

    private static void regret() {
        due.part("promise 37");
        TwinOrders x = asked(1, 2, 1, 3, 2, 1, 1);
        // By use with 2: at 3 goes 2, asked one behind; at 2 goes 1, asked one behind; at 1 goes 3, never again.
        due.is("how many", x.regret(0, 2, 0), 2);
        due.is("nearest", x.regret(0, 2, 1), 1);
        due.is("by what comes", x.regret(5, 2, 0), 1);
        due.is("by what comes", x.regret(5, 2, 1), 2);
        due.is("none goes", x.regret(0, 3, 0), 0);
        due.is("none goes", x.regret(0, 3, 1), -1);
        due.is("cap 0", x.regret(0, 0, 0), 0);
        due.is("others", x.regret(0, 2, 2), -1);
        due.is("others", x.regret(0, 2, -1), -1);
        due.is("others", x.regret(6, 2, 0), -1);
        due.is("others", x.regret(-1, 2, 0), -1);
        for (int far : FAR) {
            due.is("others", x.regret(far, 2, 0), -1);
            due.is("others", x.regret(0, far, 0), -1);
            due.is("others", x.regret(0, 2, far), -1);
        }
        x = asked(1, 2, 3, 4, 5, 1);
        due.is("from the one by which it goes", x.regret(0, 3, 1), 2);
        // By use with 2: 1 goes at the third, three ahead of its next; again at the eighth, one ahead.
        x = asked(1, 2, 3, 4, 3, 1, 5, 6, 1, 5);
        due.is("the nearest comes late", x.regret(0, 2, 1), 1);
    }

    private static void agree() {
        due.part("promise 36");
        // With 2, by use 8 9 are left, by count 1 and 9: 9 alone is there by all.
        TwinOrders x = asked(1, 1, 1, 8, 9);
        due.is("how many", x.agree(2, -1), 1);
        due.is("which", x.agree(2, 0), 9);
        due.is("none such", x.agree(2, 1), -1);
        due.is("all", x.agree(3, -1), 3);
        for (int k = 0; k < 3; k++) {
            due.is("rising", x.agree(3, k), new int[] {1, 8, 9}[k]);
        }
        // By balance the ghost 3 makes 4, old, go; by all others 3 and 4 are left.
        x = asked(3, 4, 2, 4, 3);
        due.is("how many", x.agree(2, -1), 1);
        due.is("which", x.agree(2, 0), 3);
        x = asked(30, 20, 10, 40);
        for (int k = 0; k < 4; k++) {
            due.is("rising", x.agree(60, k), 10 * (k + 1));
        }
        due.is("cap 0", x.agree(0, -1), 0);
        due.is("cap 0", x.agree(0, 0), -1);
        due.is("none such", x.agree(60, -2), -1);
        due.is("no cap", x.agree(-1, -1), -1);
        for (int far : FAR) {
            due.is("no cap", x.agree(far, -1), -1);
            due.is("none such", x.agree(60, far), -1);
        }
    }

    private static void least() {
        due.part("promise 41");
        TwinOrders x = asked(1, 2, 3, 1, 2, 3, 4, 4);
        due.is("0 hits", x.least(0, 0), 0);
        due.is("4 once more", x.least(0, 1), 1);
        due.is("by use three are needed", x.least(0, 2), 3);
        due.is("all", x.least(0, 4), 3);
        due.is("more than can be", x.least(0, 5), -1);
        due.is("by what comes", x.least(5, 2), 2);
        due.is("by what comes", x.least(5, 3), 2);
        due.is("by what comes", x.least(5, 4), 3);
        due.is("no way", x.least(6, 0), -1);
        due.is("no way", x.least(-1, 0), -1);
        due.is("no hits", x.least(0, -1), -1);
        for (int far : new int[] {Integer.MIN_VALUE, -2, 101, Integer.MAX_VALUE}) {
            due.is("no way", x.least(far, 0), -1);
            due.is("hits", x.least(0, far), -1);
        }
        // Beyond 60 there is no cap: 61 keys by use, then all again.
        x = new TwinOrders();
        for (int i = 0; i < 100; i++) {
            x.get(i % 61);
        }
        due.is("no cap does", x.least(0, 1), -1);
        // 0 .. 38 come again: these stay, and one place is enough for the others.
        due.is("by what comes", x.least(5, 39), 40);
        for (int i = 0; i < 100; i++) {
            x.get(i % 60);
        }
        due.is("60 does", x.least(0, 40), 60);
    }

    private static void best() {
        due.part("promise 42");
        TwinOrders x = asked(1, 2, 1, 3, 2, 1, 1);
        due.is("by count first", x.best(2, 0), 1);
        due.is("by what comes no more", x.best(2, 1), 0);
        due.is("all alike", x.best(0, 0), 0);
        due.is("all alike", x.best(60, 0), 0);
        x = asked(1, 2, 3, 1, 2, 3);
        due.is("none by any", x.best(2, 0), 0);
        due.is("by balance", asked(1, 2, 3, 1, 2, 4, 1, 2, 3, 4).best(3, 0), 4);
        due.is("by what comes no more", asked(1, 2, 3, 1, 2, 4, 1, 2, 3, 4).best(3, 1), 0);
        due.is("more by what comes", x.best(2, 1), x.replay(5, 2, 0));
        due.is("more by what comes", x.replay(5, 2, 0), 2);
        due.is("others", x.best(2, 2), -1);
        due.is("others", x.best(2, -1), -1);
        due.is("others", x.best(-1, 0), -1);
        for (int far : FAR) {
            due.is("others", x.best(far, 0), -1);
            due.is("others", x.best(2, far), -1);
        }
    }

    private static void ofLate() {
        due.part("the latest hundred alone");
        TwinOrders x = new TwinOrders();
        x.get(777);
        for (int i = 0; i < 99; i++) {
            x.get(i % 30);
        }
        x.get(777);
        due.is("its elder request is gone", x.distance(99), -1);
        due.is("hits", x.replay(0, 60, 0), 99 - 30);
        due.is("acts are no requests", x.count(15), 100);
        x.remove(1);
        x.pin(1, true);
        x.chance(3, 5);
        due.is("chance calls", x.count(15), 100);
        due.part("sixty at most");
        x = new TwinOrders();
        for (int i = 0; i < 100; i++) {
            x.get(i);
        }
        for (int way = 0; way < 6; way++) {
            due.is("there at the end", x.replay(way, 60, 2), 60);
            due.is("went", x.replay(way, 60, 1), 40);
        }
    }
}
