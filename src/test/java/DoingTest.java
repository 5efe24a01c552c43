/** Promises 1 to 14: what is done, with the edges that the document names and wrong numbers. */
public final class DoingTest {
    private static final Due due = new Due();
    private static final int[] BAD_KEYS = {-1, 1000, Integer.MIN_VALUE, Integer.MAX_VALUE};

    public static void main(String[] args) {
        newObject();
        put();
        putWithinCap();
        putOfSixty();
        ghostsAndBalance();
        ways();
        wayOfBalance();
        get();
        remove();
        pin();
        resize();
        way();
        aging();
        tick();
        listen();
        acts();
        hearing();
        turn();
        chance();
        images();
        wholeImages();
        eachCallHearsItsOwn();
        due.end("DoingTest");
    }

    private static void order(TwinOrders x, int order, int... keys) {
        for (int k = 0; k < keys.length; k++) {
            due.is("order(" + order + ", " + k + ")", x.order(order, k), keys[k]);
        }
        due.is("order(" + order + ", " + keys.length + ")", x.order(order, keys.length), -1);
    }

    private static void ghosts(TwinOrders x, int sort, int... keys) {
        for (int k = 0; k < keys.length; k++) {
            due.is("ghost(" + sort + ", " + k + ")", x.ghost(sort, k), keys[k]);
        }
        due.is("ghost(" + sort + ", " + keys.length + ")", x.ghost(sort, keys.length), -1);
    }

    /** The latest events heard, kind and key by turns, the latest first. */
    private static void log(TwinOrders x, int... kindsAndKeys) {
        for (int k = 0; k < kindsAndKeys.length / 2; k++) {
            due.is("heard(" + k + ", 0)", x.heard(k, 0), kindsAndKeys[2 * k]);
            due.is("heard(" + k + ", 1)", x.heard(k, 1), kindsAndKeys[2 * k + 1]);
        }
    }

    private static void newObject() {
        due.part("promise 1");
        TwinOrders x = new TwinOrders();
        int[] at = {0, 0, 40, 0, 0, 0, 0, 100, 0, 0, 0, 0, 0, 0, 0, 0, 0, 0, 0, 0};
        for (int what = 0; what < at.length; what++) {
            due.is("count(" + what + ")", x.count(what), at[what]);
        }
        due.is("NONE", TwinOrders.NONE, -1);
    }

    private static void put() {
        due.part("promise 2");
        TwinOrders x = new TwinOrders();
        due.is("came", x.put(5, -9999, 3, 999), 1);
        due.is("value", x.entry(5, 0), -9999);
        due.is("till", x.entry(5, 4), 999);
        due.is("changed", x.put(5, 9999, 4, 0), 0);
        due.is("value", x.entry(5, 0), 9999);
        due.is("weight", x.entry(5, 1), 4);
        due.is("count", x.entry(5, 2), 2);
        due.is("last", x.entry(5, 3), 2);
        due.is("till is gone", x.entry(5, 4), -1);
        due.is("key 0", x.put(0, 0, 1, 0), 1);
        due.is("key 999", x.put(999, 0, 1, 0), 1);
        due.is("weight 40 of cap 40", x.put(1, 0, 40, 0), 1);
        due.is("all others went", x.count(0), 1);
        due.is("weight 41 of cap 40", x.put(1, 7, 41, 0), -1);
        due.is("rejected changes nothing", x.entry(1, 0), 0);
        int requests = x.count(15);
        for (int key : BAD_KEYS) {
            due.is("bad key", x.put(key, 0, 1, 0), -2);
        }
        for (int value : new int[] {-10000, 10000, Integer.MIN_VALUE, Integer.MAX_VALUE}) {
            due.is("bad value", x.put(1, value, 1, 0), -2);
        }
        for (int weight : new int[] {0, -1, 100, Integer.MIN_VALUE, Integer.MAX_VALUE}) {
            due.is("bad weight", x.put(1, 0, weight, 0), -2);
        }
        for (int lives : new int[] {-1, 1000, Integer.MIN_VALUE, Integer.MAX_VALUE}) {
            due.is("bad lives", x.put(1, 0, 1, lives), -2);
        }
        due.is("no request of what is refused", x.count(15), requests);
        log(x, 6, 1, 0, 1);
    }

    private static void putWithinCap() {
        due.part("promise 2, cap");
        TwinOrders x = new TwinOrders();
        x.put(1, 0, 10, 0);
        x.put(2, 0, 10, 0);
        x.put(3, 0, 20, 0);
        x.pin(2, true);
        due.is("as heavy as can be beside the pinned one", x.put(4, 0, 30, 0), 1);
        order(x, 0, 2, 4);
        ghosts(x, 0, 3, 1);
        log(x, 0, 4, 2, 3, 2, 1);
        due.is("heavier", x.put(4, 0, 31, 0), -1);
        due.is("weight told of rejected", x.heard(0, 3), 31);
        due.is("the pinned one's own weight is aside", x.put(2, 0, 40, 0), 0);
        log(x, 1, 2, 2, 4);
        due.is("still pinned", x.entry(2, 5), 1);
        due.is("pinned weights", x.count(16), 40);
        due.is("the one that is put is not evicted", x.count(0), 1);
        due.is("pinned ones are above", x.put(5, 0, 1, 0), -1);
        due.is("lighter", x.put(2, 0, 1, 0), 0);
        due.is("pinned weights", x.count(16), 1);
        due.is("room again", x.put(5, 0, 39, 0), 1);
    }

    private static void putOfSixty() {
        due.part("promise 2, sixty");
        TwinOrders x = new TwinOrders();
        x.resize(5000);
        for (int key = 0; key < 60; key++) {
            due.is("came", x.put(key, 0, 1, 0), 1);
        }
        due.is("none went", x.count(11), 0);
        due.is("the 61st", x.put(60, 0, 1, 0), 1);
        due.is("one went", x.count(11), 1);
        ghosts(x, 0, 0);
        due.is("sixty", x.count(0), 60);
        for (int key = 1; key <= 60; key++) {
            x.pin(key, true);
        }
        due.is("all pinned", x.put(61, 0, 1, 0), -1);
        due.is("of one that is there", x.put(60, 0, 99, 0), 0);
        due.is("room", x.room(0), 0);
        x.pin(30, false);
        due.is("one may go", x.put(61, 0, 1, 0), 1);
        due.is("it went", x.entry(30, 0), -10000);
        due.is("its ghost", x.ghost(0, 0), 30);
    }

    private static void ghostsAndBalance() {
        due.part("ghosts, balance");
        TwinOrders x = new TwinOrders();
        x.resize(10);
        for (int key = 0; key < 20; key++) {
            x.put(key, 0, 10, 0);
        }
        ghosts(x, 0, 18, 17, 16, 15, 14, 13, 12, 11, 10, 9, 8, 7, 6, 5, 4, 3);
        x.put(10, 0, 6, 0);
        due.is("balance", x.count(4), 6);
        ghosts(x, 0, 19, 18, 17, 16, 15, 14, 13, 12, 11, 9, 8, 7, 6, 5, 4, 3);
        x.put(9, 0, 6, 0);
        due.is("balance at cap", x.count(4), 10);
        x.get(9);
        x.put(30, 0, 10, 0);
        ghosts(x, 1, 9);
        due.is("ghost of weight told", x.put(9, 0, 3, 0), 1);
        due.is("balance less", x.count(4), 7);
        ghosts(x, 1);
        x.get(9);
        x.put(31, 0, 10, 0);
        x.put(9, 0, 9, 0);
        due.is("balance 0 at least", x.count(4), 0);
        x.put(10, 0, 10, 0);
        due.is("from young", x.count(4), 10);
        x.pin(10, true);
        due.is("rejected", x.put(31, 0, 1, 0), -1);
        due.is("of rejected the ghost stays", x.ghost(0, 1), 31);
        due.is("and balance", x.count(4), 10);
        x.remove(10);
        due.is("removed is no ghost", x.ghost(0, 0), 9);
    }

    private static void ways() {
        due.part("ways");
        TwinOrders x = new TwinOrders();
        int[] weights = {5, 9, 3, 9, 4};
        for (int key = 0; key < 5; key++) {
            x.put(key, 0, weights[key], 0);
        }
        x.get(0);
        x.get(0);
        x.get(1);
        // By use: 2 3 4 0 1, by count: 2 3 4 1 0.
        order(x, 0, 2, 3, 4, 0, 1);
        order(x, 1, 2, 3, 4, 1, 0);
        x.keep(0);
        x.way(0);
        due.is("way 0", x.resize(4), 5);
        order(x, 0);
        x.back(0);
        x.resize(14);
        order(x, 0, 0, 1);
        x.back(0);
        x.way(1);
        x.resize(14);
        order(x, 0, 0, 1);
        x.resize(9);
        order(x, 0, 0);
        x.back(0);
        x.way(2);
        due.is("way 2", x.resize(18), 2);
        order(x, 0, 4, 0, 1);
        due.is("went by way 2", x.count(18), 2);
        due.is("way 2 again, by use", x.resize(14), 1);
        order(x, 0, 0, 1);
        due.is("then by count", x.resize(13), 1);
        order(x, 0, 0);
        due.is("went by way 2", x.count(18), 4);
        x.back(0);
        due.is("went by way 2", x.count(18), 0);
        x.way(3);
        due.is("way 3", x.resize(29), 1);
        order(x, 0, 2, 4, 0, 1);
        due.is("way 3", x.resize(20), 1);
        order(x, 0, 2, 4, 0);
        due.is("way 3", x.resize(11), 1);
        order(x, 0, 2, 4);
        due.is("by other ways none went by 2", x.count(18), 0);
    }

    private static void wayOfBalance() {
        due.part("way 4");
        TwinOrders x = new TwinOrders();
        x.way(4);
        x.put(1, 0, 10, 0);
        x.get(1);
        x.put(2, 0, 10, 0);
        x.put(3, 0, 10, 0);
        // The young weigh 20, above 0.
        due.is("the first young one", x.victim(4), 2);
        x.pin(2, true);
        due.is("pinned ones stay", x.victim(4), 3);
        x.pin(3, true);
        due.is("else the first old one", x.victim(4), 1);
        x.pin(2, false);
        x.pin(3, false);
        x.put(4, 0, 20, 0);
        ghosts(x, 0, 2);
        x.put(2, 0, 10, 0);
        due.is("balance", x.count(4), 10);
        ghosts(x, 0, 3);
        x.put(3, 0, 10, 0);
        due.is("balance", x.count(4), 20);
        ghosts(x, 0, 4);
        // 1 old; 2 and 3 young weigh 20, not above 20.
        due.is("the first old one", x.victim(4), 1);
        x.get(2);
        x.get(3);
        x.pin(1, true);
        due.is("no young one at all", x.victim(4), 2);
        x.pin(1, false);
        due.is("the one that is put with its new weight", x.put(5, 0, 10, 0), 1);
        // 5 alone is young: as it grows to 21, above 20, the first young one is itself, so the first old one.
        due.is("grows", x.put(5, 0, 21, 0), 0);
        order(x, 0, 3, 5);
    }

    private static void get() {
        due.part("promise 3");
        TwinOrders x = new TwinOrders();
        due.is("missed", x.get(0), 0);
        log(x, 5, 0);
        x.put(0, 0, 1, 0);
        due.is("there", x.get(0), 1);
        log(x, 0, 0, 5, 0);
        due.is("got", x.count(9), 1);
        due.is("missed", x.count(10), 1);
        due.is("requests", x.count(15), 3);
        for (int key : BAD_KEYS) {
            due.is("bad key", x.get(key), -2);
        }
        due.is("requests", x.count(15), 3);
    }

    private static void remove() {
        due.part("promise 4");
        TwinOrders x = new TwinOrders();
        x.put(1, -9999, 7, 0);
        x.put(2, 9999, 8, 0);
        x.pin(2, true);
        due.is("value and 10000", x.remove(1), 1);
        due.is("pinned, too", x.remove(2), 19999);
        log(x, 4, 2, 4, 1);
        due.is("weight then", x.heard(0, 3), 8);
        due.is("no ghost", x.ghost(0, 0), -1);
        due.is("load", x.count(1), 0);
        due.is("pinned weights", x.count(16), 0);
        due.is("none", x.remove(1), -3);
        for (int key : BAD_KEYS) {
            due.is("bad key", x.remove(key), -2);
        }
        due.is("no event of what is refused", x.heard(0, 1), 2);
        due.is("no request", x.count(15), 2);
    }

    private static void pin() {
        due.part("promise 5");
        TwinOrders x = new TwinOrders();
        x.put(1, 0, 7, 0);
        due.is("not pinned", x.pin(1, false), 0);
        due.is("another", x.pin(1, true), 1);
        due.is("not another", x.pin(1, true), 0);
        due.is("pinned weights", x.count(16), 7);
        due.is("unpinned", x.pin(1, false), 1);
        due.is("pinned weights", x.count(16), 0);
        due.is("none", x.pin(2, false), -3);
        for (int key : BAD_KEYS) {
            due.is("bad key", x.pin(key, true), -2);
        }
        due.is("uses", x.count(5), 1);
    }

    private static void resize() {
        due.part("promise 6");
        TwinOrders x = new TwinOrders();
        for (int key = 1; key <= 4; key++) {
            x.put(key, 0, 10, 0);
        }
        x.pin(1, true);
        due.is("below pinned", x.resize(9), -3);
        due.is("bad", x.resize(-1), -2);
        due.is("bad", x.resize(5001), -2);
        due.is("bad", x.resize(Integer.MIN_VALUE), -2);
        due.is("bad", x.resize(Integer.MAX_VALUE), -2);
        due.is("cap", x.count(2), 40);
        due.is("evicted", x.resize(29), 2);
        log(x, 2, 3, 2, 2);
        due.is("evicted", x.resize(10), 1);
        due.is("most", x.resize(5000), 0);
        x.pin(1, false);
        due.is("cap 0", x.resize(0), 1);
        due.is("cap 0", x.count(2), 0);
        due.part("promise 6, balance");
        x = new TwinOrders();
        x.resize(20);
        x.put(1, 0, 10, 0);
        x.put(2, 0, 20, 0);
        x.put(1, 0, 10, 0);
        x.put(3, 0, 2, 0);
        x.get(3);
        x.way(4);
        due.is("balance", x.count(4), 10);
        // Balance becomes 9 ahead of evicting: the young weigh 10, above that, so 1 goes, not 3.
        due.is("one goes", x.resize(9), 1);
        order(x, 0, 3);
        due.is("balance", x.count(4), 9);
        x.resize(50);
        due.is("balance stays as cap grows", x.count(4), 9);
    }

    private static void way() {
        due.part("promise 7");
        TwinOrders x = new TwinOrders();
        for (int way = 0; way <= 4; way++) {
            due.is("what it was", x.way(way), Math.max(0, way - 1));
        }
        for (int way : new int[] {-1, 5, Integer.MIN_VALUE, Integer.MAX_VALUE}) {
            due.is("bad", x.way(way), -2);
        }
        due.is("way", x.count(3), 4);
    }

    private static void aging() {
        due.part("promise 8");
        TwinOrders x = new TwinOrders();
        due.is("was", x.aging(999), 100);
        due.is("was", x.aging(3), 999);
        for (int n : new int[] {0, 1000, -1, Integer.MIN_VALUE, Integer.MAX_VALUE}) {
            due.is("bad", x.aging(n), -2);
        }
        due.is("aging", x.count(7), 3);
        x.put(1, 0, 1, 0);
        x.get(1);
        x.get(1);
        due.is("3 halved, cut", x.entry(1, 2), 1);
        x.get(1);
        x.get(1);
        x.put(2, 0, 1, 0);
        due.is("6 uses: 3 halved, cut", x.entry(1, 2), 1);
        due.is("1 at least", x.entry(2, 2), 1);
        due.is("halved", x.count(17), 2);
        x.aging(1);
        due.is("not halved by aging itself", x.count(17), 2);
        x.get(2);
        due.is("each use", x.count(17), 3);
        due.is("each use", x.entry(2, 2), 1);
        due.is("last is not halved", x.entry(2, 3), 7);
    }

    private static void tick() {
        due.part("promise 9");
        TwinOrders x = new TwinOrders();
        x.put(1, 0, 1, 5);
        x.put(2, 0, 2, 5);
        x.put(3, 0, 3, 4);
        x.put(4, 0, 4, 0);
        x.pin(2, true);
        x.get(1);
        due.is("too early", x.tick(3), 0);
        due.is("in all", x.tick(2), 3);
        // Tick by tick, and by use at each.
        log(x, 3, 1, 3, 2, 3, 3);
        due.is("weight then", x.heard(2, 3), 3);
        due.is("no ghosts", x.ghost(0, 0), -1);
        due.is("no old ghosts", x.ghost(1, 0), -1);
        due.is("pinned, too", x.count(16), 0);
        due.is("expired", x.count(12), 3);
        due.is("tick", x.count(6), 5);
        due.is("stays", x.tick(999), 0);
        due.is("without till", x.count(0), 1);
        x.put(4, 0, 4, 1);
        due.is("from now", x.entry(4, 4), 1005);
        x.put(4, 0, 4, 0);
        due.is("none again", x.tick(10), 0);
        for (int n : new int[] {0, -1, 1000, Integer.MIN_VALUE, Integer.MAX_VALUE}) {
            due.is("bad", x.tick(n), -2);
        }
        due.is("tick", x.count(6), 1014);
        due.part("promise 9, heard behind all ticks");
        x = new TwinOrders();
        x.listen(3, 1, 0, 3, 1, 0);
        x.put(1, 0, 1, 1);
        x.put(2, 0, 1, 2);
        due.is("both expire ahead of the act", x.tick(2), 2);
        due.is("the act finds none", x.listener(0, 2), 0);
    }

    private static void listen() {
        due.part("promise 10");
        TwinOrders x = new TwinOrders();
        int[][] bad = {{-2, 1, 0, 0, 0, 0}, {7, 1, 0, 0, 0, 0}, {0, 0, 0, 0, 0, 0}, {0, 10, 0, 0, 0, 0},
            {0, 3, 3, 0, 0, 0}, {0, 3, -1, 0, 0, 0}, {0, 1, 0, -1, 0, 0}, {0, 1, 0, 7, 0, 0},
            {0, 1, 0, 0, 1000, 0}, {0, 1, 0, 6, -1000, 0}, {0, 1, 0, 1, 0, 0}, {0, 1, 0, 1, 0, 100},
            {0, Integer.MIN_VALUE, 0, 0, 0, 0}, {0, 1, Integer.MIN_VALUE, 0, 0, 0},
            {Integer.MAX_VALUE, 1, 0, 0, 0, 0}, {0, 1, 0, 0, Integer.MIN_VALUE, 0}};
        for (int[] b : bad) {
            due.is("bad", x.listen(b[0], b[1], b[2], b[3], b[4], b[5]), -2);
        }
        due.is("none", x.count(8), 0);
        due.is("all kinds", x.listen(-1, 9, 8, 0, 999, -5), 0);
        due.is("weight 99", x.listen(6, 9, 8, 1, -999, 99), 1);
        for (int n = 2; n < 8; n++) {
            due.is("number", x.listen(2, 9, 8, 2, 0, Integer.MAX_VALUE), n);
        }
        due.is("there are 8", x.listen(2, 9, 8, 2, 0, 0), -3);
        due.is("of both -2", x.listen(7, 9, 8, 2, 0, 0), -2);
        due.is("listeners", x.count(8), 8);
        due.is("on", x.listener(7, 0), 1);
        x.put(7, 0, 1, 0);
        due.is("another rest", x.heard(0, 4), 0);
        x.put(17, 0, 1, 0);
        due.is("the rest, one kind fits", x.heard(0, 4), 1);
        x.get(26);
        due.is("missed", x.heard(0, 4), 1);
        due.is("heard", x.listener(0, 1), 2);
        due.is("heard", x.listener(2, 1), 0);
    }

    private static void acts() {
        due.part("acts");
        TwinOrders x = new TwinOrders();
        x.listen(5, 1, 0, 1, -3, 4);
        x.get(1);
        due.is("modulo 1000", x.entry(998, 0), 0);
        due.is("weight", x.entry(998, 1), 4);
        due.is("no till", x.entry(998, 4), -1);
        due.is("did", x.listener(0, 2), 1);
        due.is("no request of acts", x.count(15), 1);

        x = new TwinOrders();
        x.listen(2, 1, 0, 1, 100, 1);
        x.put(1, 77, 40, 0);
        x.put(2, 0, 39, 0);
        due.is("the value of the one that went", x.entry(101, 0), 77);
        due.is("load", x.count(1), 40);
        x.pin(2, true);
        x.pin(101, true);
        due.is("rejected", x.put(3, 0, 1, 0), -1);

        x = new TwinOrders();
        x.listen(0, 1, 0, 2, 1, 0);
        x.put(1, 0, 1, 0);
        log(x, 5, 2, 0, 1);
        due.is("depth", x.heard(0, 2), 1);
        due.is("missed did nothing", x.listener(0, 2), 0);
        due.is("missed", x.count(10), 1);
        x.put(0, 0, 1, 0);
        due.is("got by an act", x.count(9), 1);
        due.is("did", x.listener(0, 2), 1);
        due.is("a use", x.entry(1, 2), 2);

        x = new TwinOrders();
        x.put(2, 5, 1, 0);
        x.listen(0, 1, 0, 3, 1, 0);
        x.put(1, 0, 1, 0);
        log(x, 4, 2, 0, 1);
        due.is("did", x.listener(0, 2), 1);
        x.put(7, 0, 1, 0);
        due.is("refused", x.listener(0, 2), 1);
        due.is("heard", x.listener(0, 1), 2);

        x = new TwinOrders();
        x.listen(-1, 2, 0, 4, 0, 0);
        x.listen(-1, 2, 1, 5, 0, 0);
        x.put(2, 0, 1, 0);
        due.is("pinned", x.entry(2, 5), 1);
        x.put(2, 0, 1, 0);
        due.is("another alone counts", x.listener(0, 2), 1);
        x.put(3, 0, 1, 0);
        x.pin(3, true);
        x.put(3, 0, 1, 0);
        due.is("unpinned", x.entry(3, 5), 0);
        due.is("another alone counts", x.listener(1, 2), 1);
        x.put(3, 0, 1, 0);
        x.put(2, 0, 1, 0);
        x.get(99);
        x.get(98);
        due.is("neither what is so already nor what is not there", x.listener(0, 2), 1);
        due.is("neither what is so already nor what is not there", x.listener(1, 2), 1);

        x = new TwinOrders();
        x.listen(4, 2, 0, 6, -15, 0);
        x.listen(4, 2, 1, 6, 999, 0);
        x.put(1, 0, 20, 0);
        x.put(2, 0, 1, 0);
        x.put(4, 0, 1, 0);
        x.put(6, 0, 1, 0);
        x.remove(2);
        due.is("less", x.count(2), 25);
        x.remove(4);
        due.is("less", x.count(2), 10);
        due.is("evicted by it", x.ghost(0, 0), 1);
        log(x, 2, 1, 4, 4);
        due.is("depth", x.heard(0, 2), 1);
        x.remove(6);
        due.is("where resize() would be refused nothing", x.count(2), 10);
        due.is("did", x.listener(0, 2), 2);
        due.is("heard", x.listener(0, 1), 3);
        for (int i = 0; i < 6; i++) {
            x.put(7, 0, 1, 0);
            x.remove(7);
        }
        due.is("5000 at most", x.count(2), 4 * 999 + 10);
        due.is("did", x.listener(1, 2), 4);
        x = new TwinOrders();
        x.listen(0, 1, 0, 6, 0, 0);
        x.put(1, 0, 1, 0);
        due.is("cap is no other", x.listener(0, 2), 0);
        x.listen(1, 1, 0, 6, -30, 0);
        x.put(2, 0, 20, 0);
        x.pin(2, true);
        x.put(2, 0, 20, 0);
        due.is("pinned ones are above", x.count(2), 40);
    }

    private static void hearing() {
        due.part("hearing");
        TwinOrders x = new TwinOrders();
        // Each missed key asks for the next two: a tree that never ends.
        x.listen(5, 1, 0, 2, 1, 0);
        x.listen(5, 1, 0, 2, 2, 0);
        x.get(0);
        due.is("100 heard", x.listener(0, 1), 100);
        due.is("what waits is lost", x.count(14), 101);
        due.is("all are missed", x.count(10), 201);
        // Events 0; 1, 2; 3 .. 6; and on: the 100th is of depth 6.
        due.is("depth", x.heard(0, 2), 6);
        due.is("deepest", x.count(19), 6);
        due.is("the log holds 40", x.heard(39, 0), 5);
        due.is("the log holds 40", x.heard(40, 0), -1);
        x.turn(0, false);
        x.turn(1, false);
        x.get(0);
        due.is("lost of before is not counted again", x.count(14), 101);
        due.is("deepest so far", x.count(19), 6);

        due.part("hearing, the order");
        x = new TwinOrders();
        x.listen(-1, 1, 0, 0, 0, 0);
        x.listen(2, 1, 0, 2, 500, 0);
        x.put(1, 0, 20, 0);
        x.put(2, 0, 20, 0);
        x.put(3, 0, 40, 0);
        // All of the call is heard first, then what the acts made.
        log(x, 5, 502, 5, 501, 0, 3, 2, 2, 2, 1);
        due.is("listeners that heard", x.heard(4, 4), 2);
        due.is("listeners that heard", x.heard(2, 4), 1);
        due.is("depth", x.heard(1, 2), 1);
        due.is("depth", x.heard(2, 2), 0);

        due.part("hearing, the value told");
        x = new TwinOrders();
        x.put(2, 22, 40, 0);
        x.listen(2, 1, 0, 1, 1, 1);
        x.listen(0, 9, 3, 1, 100, 1);
        // 2 goes and 3 comes: the first act changes 3 to 22, yet that 3 came is told with 33.
        x.put(3, 33, 1, 0);
        due.is("changed by an act", x.entry(3, 0), 22);
        due.is("the value that was told", x.entry(103, 0), 33);
        log(x, 0, 103, 1, 3, 0, 3, 2, 2);
    }

    private static void turn() {
        due.part("promise 11");
        TwinOrders x = new TwinOrders();
        due.is("none", x.turn(0, true), -2);
        x.listen(0, 1, 0, 2, 0, 0);
        due.is("on already", x.turn(0, true), 0);
        due.is("another", x.turn(0, false), 1);
        due.is("not another", x.turn(0, false), 0);
        x.put(1, 0, 1, 0);
        due.is("hears nothing", x.listener(0, 1), 0);
        due.is("hears nothing", x.heard(0, 4), 0);
        due.is("on again", x.turn(0, true), 1);
        x.put(2, 0, 1, 0);
        due.is("hears", x.listener(0, 1), 1);
        for (int n : new int[] {-1, 1, 8, Integer.MIN_VALUE, Integer.MAX_VALUE}) {
            due.is("bad", x.turn(n, true), -2);
        }
    }

    private static void chance() {
        due.part("promise 12");
        TwinOrders x = new TwinOrders();
        for (int[] bad : new int[][] {{-1, 0}, {Integer.MIN_VALUE, 1}, {0, -1}, {0, 61}, {0, Integer.MAX_VALUE}}) {
            due.is("bad", x.chance(bad[0], bad[1]), -2);
        }
        due.is("nothing", x.chance(7, 0), 0);
        due.is("the greatest seed", x.chance(Integer.MAX_VALUE, 60) >= 0 ? 0 : 1, 0);
        for (int seed = 0; seed < 40; seed++) {
            x = new TwinOrders();
            TwinOrders y = new TwinOrders();
            due.is("hits", x.chance(seed, 60), byHand(y, seed));
            for (int what = 0; what < 20; what++) {
                due.is("count(" + what + ")", x.count(what), y.count(what));
            }
            for (int k = 0; k < 60; k++) {
                due.is("request(" + k + ")", x.request(k), y.request(k));
                due.is("order(1, " + k + ")", x.order(1, k), y.order(1, k));
                due.is("value", x.entry(x.order(0, k), 0), y.entry(y.order(0, k), 0));
            }
        }
    }

    private static int byHand(TwinOrders y, int seed) {
        java.math.BigInteger x = java.math.BigInteger.valueOf(seed);
        int[] of = {8, 40, 9};
        int hits = 0;
        for (int i = 0; i < 60; i++) {
            int[] drawn = new int[3];
            for (int j = 0; j < 3; j++) {
                x = x.multiply(java.math.BigInteger.valueOf(1103515245)).add(java.math.BigInteger.valueOf(12345))
                        .mod(java.math.BigInteger.TWO.pow(31));
                drawn[j] = x.divide(java.math.BigInteger.valueOf(64)).intValue() % of[j];
            }
            if (drawn[0] <= 3) {
                hits += y.get(drawn[1]);
            } else if (drawn[0] <= 6) {
                y.put(drawn[1], drawn[1], drawn[2] + 1, 0);
            } else {
                y.pin(drawn[1], drawn[1] % 2 == 0);
            }
        }
        return hits;
    }

    private static void images() {
        due.part("promises 13, 14");
        TwinOrders x = new TwinOrders();
        for (int k : new int[] {-1, 2, Integer.MIN_VALUE, Integer.MAX_VALUE}) {
            due.is("keep", x.keep(k), -2);
            due.is("back", x.back(k), -2);
        }
        due.is("not kept", x.back(0), -3);
        due.is("not kept", x.back(1), -3);
        due.is("kept empty", x.keep(1), 0);
        x.resize(30);
        x.way(2);
        x.aging(7);
        x.listen(2, 1, 0, 2, 9, 0);
        x.put(1, 11, 10, 9);
        x.put(2, 22, 10, 0);
        x.put(3, 33, 15, 0);
        x.pin(2, true);
        x.tick(3);
        int[] counts = new int[20];
        for (int what = 0; what < 20; what++) {
            counts[what] = x.count(what);
        }
        due.is("kept", x.keep(0), 2);
        due.is("back to empty", x.back(1), 0);
        due.is("cap", x.count(2), 40);
        due.is("listeners", x.count(8), 0);
        due.is("the log", x.heard(0, 0), -1);
        due.is("requests", x.request(0), -1);
        due.is("ghosts", x.ghost(0, 0), -1);
        x.listen(0, 1, 0, 6, -1, 0);
        x.put(5, 0, 1, 0);
        for (int times = 0; times < 2; times++) {
            due.is("back, the image stays", x.back(0), 2);
            for (int what = 0; what < 20; what++) {
                due.is("count(" + what + ")", x.count(what), counts[what]);
            }
            order(x, 0, 2, 3);
            due.is("value", x.entry(3, 0), 33);
            due.is("pinned", x.entry(2, 5), 1);
            ghosts(x, 0, 1);
            log(x, 5, 10, 0, 3, 2, 1, 0, 2, 0, 1);
            due.is("heard", x.listener(0, 1), 1);
            due.is("request", x.request(2), 3);
            due.is("goes on from there", x.put(4, 0, 20, 0), 1);
            due.is("one more heard", x.listener(0, 1), 2);
        }
        due.is("images are aside: image 1 is still empty", x.back(1), 0);
        due.is("and kept anew", x.keep(0), 0);
        due.is("and kept anew", x.back(0), 0);
    }

    /** All that can be asked of an object without much ado. */
    private static java.util.List<Integer> all(TwinOrders x) {
        java.util.List<Integer> answers = new java.util.ArrayList<>();
        for (int what = 0; what < 20; what++) {
            answers.add(x.count(what));
        }
        for (int k = 0; k < 100; k++) {
            for (int what = 0; what < 8; what++) {
                answers.add(x.entry(k, what));
                answers.add(x.heard(k, what));
                answers.add(x.listener(k, what));
            }
            for (int sort = 0; sort < 2; sort++) {
                answers.add(x.order(sort, k));
                answers.add(x.ghost(sort, k));
            }
            answers.add(x.request(k));
        }
        for (int listener = 0; listener < 8; listener++) {
            answers.add(x.ring(listener));
        }
        return answers;
    }

    private static void wholeImages() {
        due.part("promises 13, 14, all of it");
        TwinOrders x = new TwinOrders();
        Make.enrich(x);
        java.util.List<Integer> before = all(x);
        for (int what : new int[] {4, 9, 10, 11, 12, 13, 14, 16, 17, 18, 19}) {
            due.isTrue("count(" + what + ") is above 0", x.count(what) > 0);
        }
        due.isTrue("old ghosts", x.ghost(1, 0) >= 0);
        x.keep(1);
        TwinOrders beside = new TwinOrders();
        Make.enrich(beside);
        x.resize(0);
        x.resize(77);
        x.aging(3);
        x.listen(-1, 1, 0, 3, 0, 0);
        x.chance(5, 60);
        x.tick(700);
        due.isTrue("something else", !before.equals(all(x)));
        x.back(1);
        due.isTrue("all is as it was", before.equals(all(x)));
        for (int seed = 0; seed < 4; seed++) {
            due.is("goes on alike", x.chance(seed, 60), beside.chance(seed, 60));
            due.is("goes on alike", x.tick(9), beside.tick(9));
            due.isTrue("goes on alike", all(x).equals(all(beside)));
        }
        x.back(1);
        x.keep(0);
        due.isTrue("kept from an image", x.back(0) == x.count(0) && before.equals(all(x)));
        otherListenersBetween(before);
    }

    /** From an image of nothing on, so that nothing is right by having been there before. */
    private static void otherListenersBetween(java.util.List<Integer> before) {
        TwinOrders x = new TwinOrders();
        x.keep(0);
        Make.enrich(x);
        x.keep(1);
        x.back(0);
        for (int listener = 0; listener < 8; listener++) {
            due.is("another listener", x.listen(6, 9, 7, 1, 9, 9), listener);
            due.is("heard nothing", x.listener(listener, 1), 0);
            due.is("did nothing", x.listener(listener, 2), 0);
        }
        due.is("nothing lost", x.count(14), 0);
        due.is("nothing deep", x.count(19), 0);
        x.put(7, 1, 99, 0);
        x.tick(1);
        x.back(1);
        due.isTrue("all is as it was", before.equals(all(x)));
        TwinOrders beside = new TwinOrders();
        Make.enrich(beside);
        for (int seed = 0; seed < 4; seed++) {
            due.is("goes on alike", x.chance(seed, 60), beside.chance(seed, 60));
            due.is("goes on alike", x.tick(9), beside.tick(9));
            due.isTrue("goes on alike", all(x).equals(all(beside)));
        }
    }

    private static void eachCallHearsItsOwn() {
        due.part("each call hears its own events");
        TwinOrders x = new TwinOrders();
        x.put(1, 0, 1, 0);
        x.resize(30);
        x.resize(-1);
        x.tick(1);
        x.remove(5);
        x.get(1);
        x.way(1);
        x.stir(2, 2, -1, 0);
        x.kept(0, -1);
        x.victims(30, -1);
        x.resize(30);
        due.is("one came, no more", x.heard(0, 0), 0);
        due.is("one came, no more", x.heard(1, 0), -1);
        due.is("one came, no more", x.logged(0, 0), 1);
    }
}
