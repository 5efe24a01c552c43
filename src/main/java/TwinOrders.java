import java.util.Arrays;

/**
 * A store of weighted entries with two orders kept side by side, by use and by count.
 *
 * <p>Nothing here is made by a call but an image on its first keep(): every row stands from the
 * constructor on and is used again, since all calls of a run share one room.
 */
public final class TwinOrders {
    public static final int NONE = -1;

    private static final int BAD_NUMBERS = -2;
    private static final int BAD_STANDING = -3;
    private static final int NO_ENTRY = -10000;
    private static final int VALUE_SHIFT = 10000;

    private static final int KEYS = 1000;
    private static final int MOST_ENTRIES = 60;
    private static final int MOST_VALUE = 9999;
    private static final int MOST_WEIGHT = 99;
    private static final int MOST_COUNT = 999999;
    private static final int MOST_CAP = 5000;
    private static final int MOST_AGING = 999;
    private static final int MOST_TICKS = 999;
    private static final int MOST_SHIFT = 999;
    private static final int MOST_DIVISOR = 9;
    private static final int MOST_LISTENERS = 8;
    private static final int MOST_HEARD = 100;
    private static final int MOST_LOGGED = 40;
    private static final int MOST_REQUESTS = 100;
    private static final int MOST_GHOSTS = 16;
    private static final int MOST_CHANCES = 60;
    private static final int MOST_PAPER_CAP = 60;
    private static final int MOST_PAPER_USES = 99;
    private static final int IMAGES = 2;

    private static final int BY_USE = 0;
    private static final int BY_COUNT = 1;

    private static final int WAY_USE = 0;
    private static final int WAY_COUNT = 1;
    private static final int WAY_TURNS = 2;
    private static final int WAY_WEIGHT = 3;
    private static final int WAY_BALANCE = 4;
    private static final int WAY_FUTURE = 5;

    private static final int CAME = 0;
    private static final int CHANGED = 1;
    private static final int EVICTED = 2;
    private static final int EXPIRED = 3;
    private static final int REMOVED = 4;
    private static final int MISSED = 5;
    private static final int REJECTED = 6;
    private static final int KINDS = 7;

    private static final int ACT_PUT = 1;
    private static final int ACT_GET = 2;
    private static final int ACT_REMOVE = 3;
    private static final int ACT_PIN = 4;
    private static final int ACT_UNPIN = 5;
    private static final int ACT_CAP = 6;

    private final World now;
    private final World paper;
    private final World[] images;
    private final Anew anew;
    private final int[] packed;

    public TwinOrders() {
        now = new World();
        paper = new World();
        images = new World[IMAGES];
        anew = new Anew();
        packed = new int[MOST_CAP + 1];
    }

    // ---- what is done

    public int put(int key, int value, int weight, int lives) {
        if (!isKey(key) || !isWeight(weight) || !within(value, -MOST_VALUE, MOST_VALUE)
                || !within(lives, 0, MOST_TICKS)) {
            return BAD_NUMBERS;
        }
        return now.callPut(key, value, weight, lives);
    }

    public int get(int key) {
        return isKey(key) ? now.callGet(key) : BAD_NUMBERS;
    }

    public int remove(int key) {
        return isKey(key) ? now.callRemove(key) : BAD_NUMBERS;
    }

    public int pin(int key, boolean is) {
        return isKey(key) ? now.store.fasten(key, is) : BAD_NUMBERS;
    }

    public int resize(int cap) {
        return now.callResize(cap);
    }

    public int way(int way) {
        if (!within(way, WAY_USE, WAY_BALANCE)) {
            return BAD_NUMBERS;
        }
        int was = now.store.way;
        now.store.way = way;
        return was;
    }

    public int aging(int n) {
        if (!within(n, 1, MOST_AGING)) {
            return BAD_NUMBERS;
        }
        int was = now.store.entries.aging;
        now.store.entries.aging = n;
        return was;
    }

    public int tick(int n) {
        return within(n, 1, MOST_TICKS) ? now.callTick(n) : BAD_NUMBERS;
    }

    public int listen(int kind, int m, int r, int act, int d, int w) {
        if (!within(kind, NONE, KINDS - 1) || !within(m, 1, MOST_DIVISOR) || !within(r, 0, m - 1)
                || !within(act, 0, ACT_CAP) || !within(d, -MOST_SHIFT, MOST_SHIFT)
                || (act == ACT_PUT && !isWeight(w))) {
            return BAD_NUMBERS;
        }
        int number = now.listenerCount;
        if (number >= MOST_LISTENERS) {
            return BAD_STANDING;
        }
        now.listenerCount = number + 1;
        now.listeners[number].begin(kind, m, r, act, d, w);
        return number;
    }

    public int turn(int listener, boolean on) {
        Listener one = now.listenerAt(listener);
        if (one == null) {
            return BAD_NUMBERS;
        }
        boolean other = one.on != on;
        one.on = on;
        return asInt(other);
    }

    public int chance(int seed, int n) {
        if (seed < 0 || !within(n, 0, MOST_CHANCES)) {
            return BAD_NUMBERS;
        }
        int hits = 0;
        int x = seed;
        for (int i = 0; i < n; i++) {
            x = nextDraw(x);
            int choice = drawn(x, 8);
            x = nextDraw(x);
            int key = drawn(x, 40);
            x = nextDraw(x);
            int weight = drawn(x, 9) + 1;
            if (choice < 4) {
                hits += now.callGet(key);
            } else if (choice < 7) {
                now.callPut(key, key, weight, 0);
            } else {
                now.store.fasten(key, key % 2 == 0);
            }
        }
        return hits;
    }

    public int keep(int k) {
        if (!within(k, 0, IMAGES - 1)) {
            return BAD_NUMBERS;
        }
        World image = images[k];
        if (image == null) {
            image = new World();
            images[k] = image;
        }
        image.copyFrom(now);
        return now.store.entries.size;
    }

    public int back(int k) {
        if (!within(k, 0, IMAGES - 1)) {
            return BAD_NUMBERS;
        }
        World image = images[k];
        if (image == null) {
            return BAD_STANDING;
        }
        now.copyFrom(image);
        return now.store.entries.size;
    }

    // ---- what there is

    public int entry(int key, int what) {
        Entries all = now.store.entries;
        int slot = all.find(key);
        if (slot == NONE) {
            return NO_ENTRY;
        }
        switch (what) {
            case 0: return all.values[slot];
            case 1: return all.weights[slot];
            case 2: return all.counts[slot];
            case 3: return all.lasts[slot];
            case 4: return all.tills[slot];
            case 5: return asInt(all.pinned[slot]);
            case 6: return all.placeOf(BY_USE, slot);
            case 7: return all.placeOf(BY_COUNT, slot);
            default: return NO_ENTRY;
        }
    }

    public int order(int order, int k) {
        return isOrder(order) ? now.store.entries.keyAt(order, k) : NONE;
    }

    public int ghost(int sort, int k) {
        switch (sort) {
            case 0: return now.store.young.keyAt(k);
            case 1: return now.store.old.keyAt(k);
            default: return NONE;
        }
    }

    public int bucket(int k, int what) {
        Entries all = now.store.entries;
        if (k == NONE) {
            return all.unlikeCounts();
        }
        int shared = all.countAt(k);
        if (shared == NONE) {
            return NONE;
        }
        switch (what) {
            case 0: return all.howManyOf(shared);
            case 1: return shared;
            case 2: return all.weightsOf(shared);
            default: return NONE;
        }
    }

    public int listener(int listener, int what) {
        Listener one = now.listenerAt(listener);
        if (one == null) {
            return NONE;
        }
        switch (what) {
            case 0: return asInt(one.on);
            case 1: return one.heardSoFar;
            case 2: return one.didSoFar;
            default: return NONE;
        }
    }

    public int heard(int k, int what) {
        Log log = now.log;
        int at = log.latest(k);
        if (at == NONE) {
            return NONE;
        }
        switch (what) {
            case 0: return log.kinds[at];
            case 1: return log.keys[at];
            case 2: return log.depths[at];
            case 3: return log.weights[at];
            case 4: return log.hearers[at];
            default: return NONE;
        }
    }

    public int request(int k) {
        return within(k, 0, now.requests.size - 1) ? now.requests.keys[k] : NONE;
    }

    // ---- what would be

    public int victim(int way) {
        Store store = now.store;
        return store.entries.keyOf(store.choose(way, NONE));
    }

    public int victims(int weight, int k) {
        if (!isWeight(weight) || now.store.rejects(NONE, weight)) {
            return NONE;
        }
        Store store = layStore();
        for (int i = 0; i < MOST_ENTRIES && store.isTight(weight); i++) {
            store.evict(store.choose(store.way, NONE));
        }
        Waiting gone = store.waiting;
        if (k == NONE) {
            return gone.size;
        }
        return within(k, 0, gone.size - 1) ? gone.keys[k] : NONE;
    }

    public int room(int what) {
        Store store = now.store;
        boolean full = store.entries.size >= MOST_ENTRIES;
        switch (what) {
            case 0:
                boolean stuck = full && store.choose(WAY_USE, NONE) == NONE;
                return stuck ? 0 : Math.min(MOST_WEIGHT, store.cap - store.entries.pinnedLoad);
            case 1:
                return full ? 0 : Math.min(MOST_WEIGHT, store.cap - store.entries.load);
            default:
                return NONE;
        }
    }

    public int kept(int cap, int k) {
        Store store = layStore();
        if (store.recap(cap) < 0) {
            return NONE;
        }
        return k == NONE ? store.entries.size : store.entries.keyAt(BY_USE, k);
    }

    public int pack(int c) {
        Entries all = now.store.entries;
        if (!isCap(c) || all.pinnedLoad > c) {
            return NONE;
        }
        int free = Math.min(c, all.load) - all.pinnedLoad;
        if (!isCap(free)) {
            return NONE;
        }
        Arrays.fill(packed, 0, free + 1, 0);
        int pinnedCounts = 0;
        for (int i = 0; i < all.size; i++) {
            if (all.pinned[i]) {
                pinnedCounts += all.counts[i];
            } else {
                packOne(all.weights[i], all.counts[i], free);
            }
        }
        return pinnedCounts + packed[free];
    }

    public int wakes(int listener, int other) {
        Listener one = now.listenerAt(listener);
        Listener another = now.listenerAt(other);
        if (one == null || another == null) {
            return NONE;
        }
        return asInt(one.rouses(another));
    }

    public int ring(int listener) {
        return now.listenerAt(listener) == null ? NONE : now.stepsAround(listener);
    }

    public int stir(int key, int weight, int k, int what) {
        if (!isKey(key) || !isWeight(weight) || k < NONE || !within(what, 0, 2)) {
            return NONE;
        }
        paper.copyFrom(now);
        paper.callPut(key, 0, weight, 0);
        Waiting told = paper.store.waiting;
        if (k == NONE) {
            switch (what) {
                case 0: return told.size;
                case 1: return told.lost;
                default: return paper.store.entries.size;
            }
        }
        if (k >= told.size) {
            return NONE;
        }
        switch (what) {
            case 0: return told.kinds[k];
            case 1: return told.keys[k];
            default: return told.depths[k];
        }
    }

    public int behind(int key, int n, int what) {
        if (!within(n, 1, MOST_PAPER_USES) || !within(what, 0, 2)) {
            return NONE;
        }
        Entries all = layStore().entries;
        int slot = all.find(key);
        if (slot == NONE) {
            return NONE;
        }
        int halvedBefore = all.halvings;
        for (int i = 0; i < n; i++) {
            all.use(slot);
        }
        switch (what) {
            case 0: return all.counts[slot];
            case 1: return all.placeOf(BY_COUNT, slot);
            default: return all.halvings - halvedBefore;
        }
    }

    public int turnOf(int key) {
        Store store = layStore();
        int slot = store.entries.find(key);
        if (slot == NONE || store.entries.pinned[slot]) {
            return NONE;
        }
        for (int ahead = 0; ahead < MOST_ENTRIES; ahead++) {
            int goes = store.choose(store.way, NONE);
            if (store.entries.keyOf(goes) == key) {
                return ahead;
            }
            store.evict(goes);
        }
        return NONE;
    }

    public int lead(int order, int n) {
        return isOrder(order) && n >= 0 ? now.store.entries.weightsAhead(order, n) : NONE;
    }

    public int logged(int kind, int what) {
        if (!within(kind, 0, KINDS - 1)) {
            return NONE;
        }
        switch (what) {
            case 0: return now.log.howMany(kind);
            case 1: return now.log.deepest(kind);
            case 2: return now.log.unheard(kind);
            default: return NONE;
        }
    }

    public int hot(int k, int what) {
        anew.read(now.requests);
        if (k == NONE) {
            return anew.unlike();
        }
        int at = anew.hottest(k);
        if (at == NONE) {
            return NONE;
        }
        switch (what) {
            case 0: return anew.keys[at];
            case 1: return anew.often[at];
            default: return NONE;
        }
    }

    public int profile(int d) {
        if (d < NONE) {
            return 0;
        }
        anew.read(now.requests);
        int found = 0;
        for (int k = 0; k < anew.size; k++) {
            if (anew.othersSince(k) == d) {
                found++;
            }
        }
        return found;
    }

    public int agree(int c, int k) {
        if (!isPaperCap(c)) {
            return NONE;
        }
        anew.read(now.requests);
        anew.findShared(c);
        if (k == NONE) {
            return anew.sharedSize;
        }
        return within(k, 0, anew.sharedSize - 1) ? anew.shared[k] : NONE;
    }

    public int regret(int way, int c, int what) {
        if (!within(what, 0, 1) || !goThrough(way, c)) {
            return NONE;
        }
        return what == 0 ? anew.regrets() : anew.nearestRegret();
    }

    public int distance(int k) {
        anew.read(now.requests);
        return anew.othersSince(k);
    }

    public int replay(int way, int c, int what) {
        if (!within(what, 0, 2) || !goThrough(way, c)) {
            return NONE;
        }
        switch (what) {
            case 0: return anew.hits;
            case 1: return anew.store.happened[EVICTED];
            default: return anew.store.entries.size;
        }
    }

    public int replayed(int way, int c, int k) {
        return goThrough(way, c) ? anew.store.entries.keyAt(BY_USE, k) : NONE;
    }

    public int least(int way, int hits) {
        if (!isPaperWay(way) || hits < 0) {
            return NONE;
        }
        anew.read(now.requests);
        return anew.leastCap(way, hits);
    }

    public int best(int c, int what) {
        if (!isPaperCap(c) || !within(what, 0, 1)) {
            return NONE;
        }
        anew.read(now.requests);
        int first = WAY_USE;
        int most = NONE;
        for (int way = WAY_USE; way <= WAY_BALANCE; way++) {
            anew.run(way, c);
            if (anew.hits > most) {
                most = anew.hits;
                first = way;
            }
        }
        if (what == 0) {
            return first;
        }
        anew.run(WAY_FUTURE, c);
        return anew.hits - most;
    }

    public int count(int what) {
        Store store = now.store;
        switch (what) {
            case 0: return store.entries.size;
            case 1: return store.entries.load;
            case 2: return store.cap;
            case 3: return store.way;
            case 4: return store.balance;
            case 5: return store.entries.uses;
            case 6: return now.ticks;
            case 7: return store.entries.aging;
            case 8: return now.listenerCount;
            case 9: return store.got;
            case 10: return store.happened[MISSED];
            case 11: return store.happened[EVICTED];
            case 12: return store.happened[EXPIRED];
            case 13: return store.happened[REJECTED];
            case 14: return now.lost;
            case 15: return now.requests.size;
            case 16: return store.entries.pinnedLoad;
            case 17: return store.entries.halvings;
            case 18: return store.wentByTurns;
            case 19: return now.deepest;
            default: return NONE;
        }
    }

    // ---- what the calls share

    private static boolean within(int number, int least, int most) {
        return number >= least && number <= most;
    }

    private static boolean isKey(int key) {
        return within(key, 0, KEYS - 1);
    }

    private static boolean isWeight(int weight) {
        return within(weight, 1, MOST_WEIGHT);
    }

    private static boolean isCap(int cap) {
        return within(cap, 0, MOST_CAP);
    }

    private static boolean isPaperCap(int cap) {
        return within(cap, 0, MOST_PAPER_CAP);
    }

    private static boolean isPaperWay(int way) {
        return within(way, WAY_USE, WAY_FUTURE);
    }

    private static boolean isOrder(int order) {
        return order == BY_USE || order == BY_COUNT;
    }

    private static int asInt(boolean is) {
        return is ? 1 : 0;
    }

    private static int nextDraw(int x) {
        // The product stays below 2 to the 62, so a long holds it whole.
        return (int) ((1103515245L * x + 12345L) & 0x7fffffffL);
    }

    private static int drawn(int x, int m) {
        return m > 0 ? (x / 64) % m : 0;
    }

    /** The store as it is now, on paper, so that what would be leaves what is alone. */
    private Store layStore() {
        paper.store.copyFrom(now.store);
        paper.store.waiting.open();
        return paper.store;
    }

    private void packOne(int weight, int worth, int free) {
        // Downwards, so that no entry is packed twice.
        for (int w = free; w >= weight; w--) {
            packed[w] = Math.max(packed[w], packed[w - weight] + worth);
        }
    }

    private boolean goThrough(int way, int c) {
        if (!isPaperWay(way) || !isPaperCap(c)) {
            return false;
        }
        anew.read(now.requests);
        anew.run(way, c);
        return true;
    }

    /** The ENTRIES, a slot each; the orders are read from the numbers, slots have none. */
    private static final class Entries {
        final int[] keys = new int[MOST_ENTRIES];
        final int[] values = new int[MOST_ENTRIES];
        final int[] weights = new int[MOST_ENTRIES];
        final int[] counts = new int[MOST_ENTRIES];
        final int[] lasts = new int[MOST_ENTRIES];
        final int[] tills = new int[MOST_ENTRIES];
        final boolean[] pinned = new boolean[MOST_ENTRIES];
        int size;
        int load;
        int pinnedLoad;
        int uses;
        int aging = 100;
        int halvings;

        void copyFrom(Entries other) {
            System.arraycopy(other.keys, 0, keys, 0, MOST_ENTRIES);
            System.arraycopy(other.values, 0, values, 0, MOST_ENTRIES);
            System.arraycopy(other.weights, 0, weights, 0, MOST_ENTRIES);
            System.arraycopy(other.counts, 0, counts, 0, MOST_ENTRIES);
            System.arraycopy(other.lasts, 0, lasts, 0, MOST_ENTRIES);
            System.arraycopy(other.tills, 0, tills, 0, MOST_ENTRIES);
            for (int i = 0; i < MOST_ENTRIES; i++) {
                pinned[i] = other.pinned[i];
            }
            size = other.size;
            load = other.load;
            pinnedLoad = other.pinnedLoad;
            uses = other.uses;
            aging = other.aging;
            halvings = other.halvings;
        }

        void empty(int newAging) {
            size = 0;
            load = 0;
            pinnedLoad = 0;
            uses = 0;
            aging = newAging;
            halvings = 0;
        }

        boolean has(int slot) {
            return slot >= 0 && slot < size;
        }

        int find(int key) {
            for (int i = 0; i < size; i++) {
                if (keys[i] == key) {
                    return i;
                }
            }
            return NONE;
        }

        int keyOf(int slot) {
            return has(slot) ? keys[slot] : NONE;
        }

        void add(int key, int value, int weight, int till) {
            if (size >= MOST_ENTRIES) {
                return;
            }
            keys[size] = key;
            values[size] = value;
            weights[size] = weight;
            counts[size] = 0;
            lasts[size] = 0;
            tills[size] = till;
            pinned[size] = false;
            size++;
            load += weight;
        }

        void change(int slot, int value, int weight, int till) {
            if (!has(slot)) {
                return;
            }
            int more = weight - weights[slot];
            load += more;
            if (pinned[slot]) {
                pinnedLoad += more;
            }
            values[slot] = value;
            weights[slot] = weight;
            tills[slot] = till;
        }

        /** The last slot moves into the one that falls free, so slots told before are stale. */
        void drop(int slot) {
            if (!has(slot)) {
                return;
            }
            load -= weights[slot];
            if (pinned[slot]) {
                pinnedLoad -= weights[slot];
            }
            size--;
            keys[slot] = keys[size];
            values[slot] = values[size];
            weights[slot] = weights[size];
            counts[slot] = counts[size];
            lasts[slot] = lasts[size];
            tills[slot] = tills[size];
            pinned[slot] = pinned[size];
        }

        boolean fasten(int slot, boolean is) {
            if (!has(slot) || pinned[slot] == is) {
                return false;
            }
            pinned[slot] = is;
            pinnedLoad += is ? weights[slot] : -weights[slot];
            return true;
        }

        void use(int slot) {
            if (!has(slot)) {
                return;
            }
            uses++;
            lasts[slot] = uses;
            counts[slot] = Math.min(counts[slot] + 1, MOST_COUNT);
            if (aging > 0 && uses % aging == 0) {
                halve();
            }
        }

        private void halve() {
            for (int i = 0; i < size; i++) {
                counts[i] = Math.max(counts[i] / 2, 1);
            }
            halvings++;
        }

        private boolean precedes(int order, int a, int b) {
            if (order == BY_COUNT && counts[a] != counts[b]) {
                return counts[a] < counts[b];
            }
            return lasts[a] < lasts[b];
        }

        int placeOf(int order, int slot) {
            int place = 0;
            for (int i = 0; i < size; i++) {
                if (precedes(order, i, slot)) {
                    place++;
                }
            }
            return place;
        }

        int keyAt(int order, int place) {
            for (int i = 0; i < size; i++) {
                if (placeOf(order, i) == place) {
                    return keys[i];
                }
            }
            return NONE;
        }

        int weightsAhead(int order, int place) {
            if (place >= size) {
                return load;
            }
            int sum = 0;
            for (int i = 0; i < size; i++) {
                if (placeOf(order, i) < place) {
                    sum += weights[i];
                }
            }
            return sum;
        }

        private boolean mayGo(int slot, int spared) {
            return !pinned[slot] && keys[slot] != spared;
        }

        int first(int order, int spared) {
            int found = NONE;
            for (int i = 0; i < size; i++) {
                if (mayGo(i, spared) && (found == NONE || precedes(order, i, found))) {
                    found = i;
                }
            }
            return found;
        }

        int heaviest(int spared) {
            int found = NONE;
            for (int i = 0; i < size; i++) {
                if (mayGo(i, spared) && (found == NONE || weights[i] > weights[found]
                        || (weights[i] == weights[found] && lasts[i] < lasts[found]))) {
                    found = i;
                }
            }
            return found;
        }

        boolean isYoung(int slot) {
            return counts[slot] == 1;
        }

        int firstOfAge(boolean young, int spared) {
            int found = NONE;
            for (int i = 0; i < size; i++) {
                if (isYoung(i) == young && mayGo(i, spared)
                        && (found == NONE || lasts[i] < lasts[found])) {
                    found = i;
                }
            }
            return found;
        }

        int youngLoad() {
            return weightsOf(1);
        }

        int weightsOf(int shared) {
            int sum = 0;
            for (int i = 0; i < size; i++) {
                if (counts[i] == shared) {
                    sum += weights[i];
                }
            }
            return sum;
        }

        int howManyOf(int shared) {
            int found = 0;
            for (int i = 0; i < size; i++) {
                if (counts[i] == shared) {
                    found++;
                }
            }
            return found;
        }

        private int countAbove(int floor) {
            int found = NONE;
            for (int i = 0; i < size; i++) {
                if (counts[i] > floor && (found == NONE || counts[i] < found)) {
                    found = counts[i];
                }
            }
            return found;
        }

        int countAt(int k) {
            if (k < 0 || k >= size) {
                return NONE;
            }
            int at = countAbove(0);
            for (int i = 0; i < k && at != NONE; i++) {
                at = countAbove(at);
            }
            return at;
        }

        int unlikeCounts() {
            int found = 0;
            int at = countAbove(0);
            for (int i = 0; i < size && at != NONE; i++) {
                found++;
                at = countAbove(at);
            }
            return found;
        }

        /** The next one to expire up to a tick: all of one tick by use, ticks one by one. */
        int soonest(int until) {
            int found = NONE;
            for (int i = 0; i < size; i++) {
                if (tills[i] != NONE && tills[i] <= until && (found == NONE || tills[i] < tills[found]
                        || (tills[i] == tills[found] && lasts[i] < lasts[found]))) {
                    found = i;
                }
            }
            return found;
        }
    }

    /** The GHOSTS of one sort, the latest first. */
    private static final class Ghosts {
        final int[] keys = new int[MOST_GHOSTS];
        int size;

        void copyFrom(Ghosts other) {
            System.arraycopy(other.keys, 0, keys, 0, MOST_GHOSTS);
            size = other.size;
        }

        void add(int key) {
            if (size < MOST_GHOSTS) {
                size++;
            }
            for (int i = size - 1; i > 0; i--) {
                keys[i] = keys[i - 1];
            }
            keys[0] = key;
        }

        boolean forget(int key) {
            int left = 0;
            for (int i = 0; i < size; i++) {
                if (keys[i] != key) {
                    keys[left] = keys[i];
                    left++;
                }
            }
            boolean found = left < size;
            size = left;
            return found;
        }

        int keyAt(int k) {
            return k >= 0 && k < size ? keys[k] : NONE;
        }
    }

    /**
     * The EVENTS of one call, in the order in which they came. They are heard in that same order
     * and 100 at most, so what finds no place here would be lost in any case.
     */
    private static final class Waiting {
        final int[] kinds = new int[MOST_HEARD];
        final int[] keys = new int[MOST_HEARD];
        final int[] values = new int[MOST_HEARD];
        final int[] weights = new int[MOST_HEARD];
        final int[] depths = new int[MOST_HEARD];
        int size;
        int lost;
        int depth;

        void open() {
            size = 0;
            lost = 0;
            depth = 0;
        }

        void add(int kind, int key, int value, int weight) {
            if (size >= MOST_HEARD) {
                lost++;
                return;
            }
            kinds[size] = kind;
            keys[size] = key;
            values[size] = value;
            weights[size] = weight;
            depths[size] = depth;
            size++;
        }
    }

    /** ENTRIES within a CAP, the GHOSTS of those that went, and the BALANCE; it tells, none hears. */
    private static final class Store {
        final Entries entries = new Entries();
        final Ghosts young = new Ghosts();
        final Ghosts old = new Ghosts();
        final Waiting waiting = new Waiting();
        final int[] happened = new int[KINDS];
        int got;
        int cap = 40;
        int way = WAY_USE;
        int balance;
        int wentByTurns;

        /** What waits is left out: it never outlasts the call in which it came. */
        void copyFrom(Store other) {
            entries.copyFrom(other.entries);
            young.copyFrom(other.young);
            old.copyFrom(other.old);
            System.arraycopy(other.happened, 0, happened, 0, KINDS);
            got = other.got;
            cap = other.cap;
            way = other.way;
            balance = other.balance;
            wentByTurns = other.wentByTurns;
        }

        void empty(int newWay, int newCap) {
            entries.empty(MOST_AGING);
            young.size = 0;
            old.size = 0;
            Arrays.fill(happened, 0);
            got = 0;
            cap = newCap;
            way = newWay;
            balance = 0;
            wentByTurns = 0;
        }

        private void tell(int kind, int key, int value, int weight) {
            happened[kind]++;
            waiting.add(kind, key, value, weight);
        }

        /** The slot that goes first by a way; the key that is put is spared. */
        int choose(int by, int spared) {
            switch (by) {
                case WAY_USE:
                    return entries.first(BY_USE, spared);
                case WAY_COUNT:
                    return entries.first(BY_COUNT, spared);
                case WAY_TURNS:
                    return entries.first(wentByTurns % 2 == 0 ? BY_USE : BY_COUNT, spared);
                case WAY_WEIGHT:
                    return entries.heaviest(spared);
                case WAY_BALANCE:
                    boolean youngFirst = entries.youngLoad() > balance;
                    int found = entries.firstOfAge(youngFirst, spared);
                    return found != NONE ? found : entries.firstOfAge(!youngFirst, spared);
                default:
                    return NONE;
            }
        }

        void evict(int slot) {
            if (!entries.has(slot)) {
                return;
            }
            int key = entries.keys[slot];
            young.forget(key);
            old.forget(key);
            if (entries.isYoung(slot)) {
                young.add(key);
            } else {
                old.add(key);
            }
            if (way == WAY_TURNS) {
                wentByTurns++;
            }
            tell(EVICTED, key, entries.values[slot], entries.weights[slot]);
            entries.drop(slot);
        }

        /** Gone without a ghost. */
        void lose(int kind, int slot) {
            if (!entries.has(slot)) {
                return;
            }
            tell(kind, entries.keys[slot], entries.values[slot], entries.weights[slot]);
            entries.drop(slot);
        }

        /** Of an entry's slot, or of NONE for a key that is not there. */
        boolean rejects(int slot, int weight) {
            int pinnedOthers = entries.pinnedLoad;
            if (entries.has(slot) && entries.pinned[slot]) {
                pinnedOthers -= entries.weights[slot];
            }
            if (weight + pinnedOthers > cap) {
                return true;
            }
            return slot == NONE && entries.size >= MOST_ENTRIES
                    && entries.first(BY_USE, NONE) == NONE;
        }

        /** Whether one must go for a new entry: too many are there, or too heavy ones. */
        boolean isTight(int weight) {
            return entries.size >= MOST_ENTRIES || entries.load + weight > cap;
        }

        private void heedGhost(int key, int weight) {
            if (young.forget(key)) {
                balance = Math.min(balance + weight, cap);
            } else if (old.forget(key)) {
                balance = Math.max(balance - weight, 0);
            }
        }

        int bring(int key, int value, int weight, int till) {
            int slot = entries.find(key);
            if (rejects(slot, weight)) {
                tell(REJECTED, key, 0, weight);
                return NONE;
            }
            heedGhost(key, weight);
            if (slot == NONE) {
                for (int i = 0; i < MOST_ENTRIES && isTight(weight); i++) {
                    evict(choose(way, key));
                }
                entries.add(key, value, weight, till);
            } else {
                entries.change(slot, value, weight, till);
                for (int i = 0; i < MOST_ENTRIES && entries.load > cap; i++) {
                    evict(choose(way, key));
                }
            }
            entries.use(entries.find(key));
            tell(slot == NONE ? CAME : CHANGED, key, value, weight);
            return slot == NONE ? 1 : 0;
        }

        int fetch(int key) {
            int slot = entries.find(key);
            if (slot == NONE) {
                tell(MISSED, key, 0, 0);
                return 0;
            }
            entries.use(slot);
            got++;
            return 1;
        }

        int takeOut(int key) {
            int slot = entries.find(key);
            if (slot == NONE) {
                return BAD_STANDING;
            }
            int value = entries.values[slot];
            lose(REMOVED, slot);
            return value + VALUE_SHIFT;
        }

        int fasten(int key, boolean is) {
            int slot = entries.find(key);
            return slot == NONE ? BAD_STANDING : asInt(entries.fasten(slot, is));
        }

        int recap(int newCap) {
            if (!isCap(newCap)) {
                return BAD_NUMBERS;
            }
            if (entries.pinnedLoad > newCap) {
                return BAD_STANDING;
            }
            cap = newCap;
            balance = Math.min(balance, cap);
            int before = happened[EVICTED];
            for (int i = 0; i < MOST_ENTRIES && entries.load > cap; i++) {
                evict(choose(way, NONE));
            }
            return happened[EVICTED] - before;
        }
    }

    /** One that hears EVENTS of a kind and of some keys, and the ACT that it does then. */
    private static final class Listener {
        int kind;
        int divisor = 1;
        int rest;
        int act;
        int shift;
        int weight;
        boolean on;
        int heardSoFar;
        int didSoFar;

        void copyFrom(Listener other) {
            kind = other.kind;
            divisor = other.divisor;
            rest = other.rest;
            act = other.act;
            shift = other.shift;
            weight = other.weight;
            on = other.on;
            heardSoFar = other.heardSoFar;
            didSoFar = other.didSoFar;
        }

        void begin(int newKind, int m, int r, int newAct, int d, int w) {
            kind = newKind;
            divisor = m;
            rest = r;
            act = newAct;
            shift = d;
            weight = w;
            on = true;
            heardSoFar = 0;
            didSoFar = 0;
        }

        boolean hearsKind(int told) {
            return kind == NONE || kind == told;
        }

        boolean hearsKey(int key) {
            return divisor > 0 && key % divisor == rest;
        }

        int keyFor(int key) {
            return Math.floorMod(key + shift, KEYS);
        }

        private boolean makesKindFor(Listener other) {
            switch (act) {
                case ACT_PUT:
                    return other.hearsKind(CAME) || other.hearsKind(CHANGED)
                            || other.hearsKind(REJECTED);
                case ACT_GET:
                    return other.hearsKind(MISSED);
                case ACT_REMOVE:
                    return other.hearsKind(REMOVED);
                default:
                    return false;
            }
        }

        boolean rouses(Listener other) {
            boolean evicts = act == ACT_PUT || (act == ACT_CAP && shift < 0);
            if (evicts && other.hearsKind(EVICTED)) {
                return true;
            }
            if (!makesKindFor(other)) {
                return false;
            }
            // Key by key: the turn from 999 to 0 brings rests that no sum of rests shows.
            for (int key = 0; key < KEYS; key++) {
                if (hearsKey(key) && other.hearsKey(keyFor(key))) {
                    return true;
                }
            }
            return false;
        }
    }

    /** The latest EVENTS heard, in a round of places that are written over. */
    private static final class Log {
        final int[] kinds = new int[MOST_LOGGED];
        final int[] keys = new int[MOST_LOGGED];
        final int[] depths = new int[MOST_LOGGED];
        final int[] weights = new int[MOST_LOGGED];
        final int[] hearers = new int[MOST_LOGGED];
        int size;
        int next;

        void copyFrom(Log other) {
            System.arraycopy(other.kinds, 0, kinds, 0, MOST_LOGGED);
            System.arraycopy(other.keys, 0, keys, 0, MOST_LOGGED);
            System.arraycopy(other.depths, 0, depths, 0, MOST_LOGGED);
            System.arraycopy(other.weights, 0, weights, 0, MOST_LOGGED);
            System.arraycopy(other.hearers, 0, hearers, 0, MOST_LOGGED);
            size = other.size;
            next = other.next;
        }

        void add(int kind, int key, int depth, int weight, int heardBy) {
            kinds[next] = kind;
            keys[next] = key;
            depths[next] = depth;
            weights[next] = weight;
            hearers[next] = heardBy;
            next = (next + 1) % MOST_LOGGED;
            size = Math.min(size + 1, MOST_LOGGED);
        }

        /** Where the k-th stands, the latest first. */
        int latest(int k) {
            if (k < 0 || k >= size) {
                return NONE;
            }
            return Math.floorMod(next - 1 - k, MOST_LOGGED);
        }

        int howMany(int kind) {
            int found = 0;
            for (int i = 0; i < size; i++) {
                if (kinds[i] == kind) {
                    found++;
                }
            }
            return found;
        }

        int deepest(int kind) {
            int found = NONE;
            for (int i = 0; i < size; i++) {
                if (kinds[i] == kind) {
                    found = Math.max(found, depths[i]);
                }
            }
            return found;
        }

        int unheard(int kind) {
            int found = 0;
            for (int i = 0; i < size; i++) {
                if (kinds[i] == kind && hearers[i] == 0) {
                    found++;
                }
            }
            return found;
        }
    }

    /** The latest keys of put() and get() as calls, the eldest first. */
    private static final class Requests {
        final int[] keys = new int[MOST_REQUESTS];
        int size;

        void copyFrom(Requests other) {
            System.arraycopy(other.keys, 0, keys, 0, MOST_REQUESTS);
            size = other.size;
        }

        void add(int key) {
            if (size >= MOST_REQUESTS) {
                for (int i = 1; i < MOST_REQUESTS; i++) {
                    keys[i - 1] = keys[i];
                }
                size = MOST_REQUESTS - 1;
            }
            keys[size] = key;
            size++;
        }
    }

    /** All that an image keeps: the store, those that listen to it, what was heard and asked. */
    private static final class World {
        final Store store = new Store();
        final Listener[] listeners = new Listener[MOST_LISTENERS];
        final Log log = new Log();
        final Requests requests = new Requests();
        int listenerCount;
        int ticks;
        int lost;
        int deepest;

        World() {
            for (int i = 0; i < MOST_LISTENERS; i++) {
                listeners[i] = new Listener();
            }
        }

        void copyFrom(World other) {
            store.copyFrom(other.store);
            for (int i = 0; i < MOST_LISTENERS; i++) {
                listeners[i].copyFrom(other.listeners[i]);
            }
            log.copyFrom(other.log);
            requests.copyFrom(other.requests);
            listenerCount = other.listenerCount;
            ticks = other.ticks;
            lost = other.lost;
            deepest = other.deepest;
        }

        /** null when there is none such. */
        Listener listenerAt(int number) {
            return number >= 0 && number < listenerCount ? listeners[number] : null;
        }

        int callPut(int key, int value, int weight, int lives) {
            requests.add(key);
            store.waiting.open();
            int answer = store.bring(key, value, weight, lives == 0 ? NONE : ticks + lives);
            hear();
            return answer;
        }

        int callGet(int key) {
            requests.add(key);
            store.waiting.open();
            int answer = store.fetch(key);
            hear();
            return answer;
        }

        int callRemove(int key) {
            store.waiting.open();
            int answer = store.takeOut(key);
            hear();
            return answer;
        }

        int callResize(int cap) {
            store.waiting.open();
            int answer = store.recap(cap);
            hear();
            return answer;
        }

        int callTick(int n) {
            store.waiting.open();
            int before = store.happened[EXPIRED];
            ticks += n;
            for (int i = 0; i < MOST_ENTRIES; i++) {
                store.lose(EXPIRED, store.entries.soonest(ticks));
            }
            int answer = store.happened[EXPIRED] - before;
            hear();
            return answer;
        }

        /** Acts add to what waits while this goes on: the row's end is the limit of what is heard. */
        private void hear() {
            Waiting waiting = store.waiting;
            for (int i = 0; i < waiting.size && i < MOST_HEARD; i++) {
                int kind = waiting.kinds[i];
                int key = waiting.keys[i];
                int depth = waiting.depths[i];
                waiting.depth = depth + 1;
                int heardBy = 0;
                for (int j = 0; j < listenerCount && j < MOST_LISTENERS; j++) {
                    Listener one = listeners[j];
                    if (one.on && one.hearsKind(kind) && one.hearsKey(key)) {
                        heardBy++;
                        one.heardSoFar++;
                        one.didSoFar += asInt(act(one, key, waiting.values[i]));
                    }
                }
                log.add(kind, key, depth, waiting.weights[i], heardBy);
                deepest = Math.max(deepest, depth);
            }
            lost += waiting.lost;
        }

        /** Whether the act did something. */
        private boolean act(Listener one, int told, int value) {
            int key = one.keyFor(told);
            switch (one.act) {
                case ACT_PUT:
                    return store.bring(key, value, one.weight, NONE) != NONE;
                case ACT_GET:
                    return store.fetch(key) == 1;
                case ACT_REMOVE:
                    return store.takeOut(key) != BAD_STANDING;
                case ACT_PIN:
                    return store.fasten(key, true) == 1;
                case ACT_UNPIN:
                    return store.fasten(key, false) == 1;
                case ACT_CAP:
                    return store.recap(store.cap + one.shift) >= 0 && one.shift != 0;
                default:
                    return false;
            }
        }

        /** Those that a listener wakes, a bit each. */
        private int wokenBy(int number) {
            int found = 0;
            for (int i = 0; i < listenerCount && i < MOST_LISTENERS; i++) {
                if (listeners[number].rouses(listeners[i])) {
                    found |= 1 << i;
                }
            }
            return found;
        }

        int stepsAround(int number) {
            int edge = 1 << number;
            int seen = 0;
            for (int steps = 1; steps <= MOST_LISTENERS; steps++) {
                int woken = 0;
                for (int i = 0; i < MOST_LISTENERS; i++) {
                    if ((edge >> i & 1) == 1) {
                        woken |= wokenBy(i);
                    }
                }
                if ((woken >> number & 1) == 1) {
                    return steps;
                }
                edge = woken & ~seen;
                seen |= woken;
            }
            return 0;
        }
    }

    /** The REQUESTS laid out with what comes behind each, and gone through anew on paper. */
    private static final class Anew {
        final Store store = new Store();
        final int[] keys = new int[MOST_REQUESTS];
        final int[] nexts = new int[MOST_REQUESTS];
        final int[] often = new int[MOST_REQUESTS];
        final int[] gone = new int[MOST_REQUESTS];
        final int[] shared = new int[MOST_ENTRIES];
        int size;
        int hits;
        int sharedSize;

        /** A key that does not come again has its next place behind the last request. */
        void read(Requests requests) {
            size = requests.size;
            System.arraycopy(requests.keys, 0, keys, 0, MOST_REQUESTS);
            for (int i = 0; i < size; i++) {
                nexts[i] = nextOf(keys[i], i);
            }
        }

        private int nextOf(int key, int at) {
            for (int i = at + 1; i < size; i++) {
                if (keys[i] == key) {
                    return i;
                }
            }
            return size;
        }

        private int previousOf(int at) {
            for (int i = at - 1; i >= 0; i--) {
                if (keys[i] == keys[at]) {
                    return i;
                }
            }
            return NONE;
        }

        int unlike() {
            int found = 0;
            for (int i = 0; i < size; i++) {
                if (nexts[i] == size) {
                    found++;
                }
            }
            return found;
        }

        /** How often each key comes, told at its last request alone, so that it is told once. */
        private void countOften() {
            for (int i = 0; i < size; i++) {
                often[i] = 0;
                for (int j = 0; j <= i && nexts[i] == size; j++) {
                    if (keys[j] == keys[i]) {
                        often[i]++;
                    }
                }
            }
        }

        private int hotterThan(int at) {
            int found = 0;
            for (int i = 0; i < size; i++) {
                if (often[i] > often[at] || (often[i] == often[at] && keys[i] < keys[at])) {
                    found++;
                }
            }
            return found;
        }

        /** A place where the k-th key by how often it comes stands. */
        int hottest(int k) {
            countOften();
            for (int i = 0; i < size; i++) {
                if (often[i] > 0 && hotterThan(i) == k) {
                    return i;
                }
            }
            return NONE;
        }

        int othersSince(int k) {
            if (k < 0 || k >= size) {
                return NONE;
            }
            int from = previousOf(k);
            if (from == NONE) {
                return NONE;
            }
            int found = 0;
            for (int i = from + 1; i < k; i++) {
                // Each other key counts once: where it comes for the last time ahead of k.
                if (nexts[i] > k) {
                    found++;
                }
            }
            return found;
        }

        void run(int way, int cap) {
            store.empty(way, cap);
            hits = 0;
            for (int i = 0; i < size; i++) {
                store.waiting.open();
                if (store.entries.find(keys[i]) != NONE) {
                    hits++;
                } else if (way == WAY_FUTURE && store.isTight(1)) {
                    store.evict(farthest());
                }
                store.bring(keys[i], 0, 1, NONE);
                gone[i] = goneNow();
            }
        }

        /** All weigh 1 and the cap stays, so one at most goes for a request, as its first event. */
        private int goneNow() {
            Waiting told = store.waiting;
            return told.size > 0 && told.kinds[0] == EVICTED ? told.keys[0] : NONE;
        }

        /** Uses are requests here: an entry's last use tells at which request it was. */
        private int nextRequest(int slot) {
            int at = store.entries.lasts[slot] - 1;
            return at >= 0 && at < size ? nexts[at] : size;
        }

        private int farthest() {
            Entries all = store.entries;
            int found = NONE;
            int far = NONE;
            for (int i = 0; i < all.size; i++) {
                int next = nextRequest(i);
                if (next > far || (next == far && all.keys[i] < all.keyOf(found))) {
                    found = i;
                    far = next;
                }
            }
            return found;
        }

        int regrets() {
            int found = 0;
            for (int i = 0; i < size; i++) {
                if (gone[i] != NONE && nextOf(gone[i], i) < size) {
                    found++;
                }
            }
            return found;
        }

        int nearestRegret() {
            int nearest = NONE;
            for (int i = 0; i < size; i++) {
                int next = gone[i] == NONE ? size : nextOf(gone[i], i);
                if (next < size && (nearest == NONE || next - i < nearest)) {
                    nearest = next - i;
                }
            }
            return nearest;
        }

        int leastCap(int way, int wanted) {
            // No first request of a key is a hit, so more than the others can't be had.
            if (wanted > size - unlike()) {
                return NONE;
            }
            for (int cap = 0; cap <= MOST_PAPER_CAP; cap++) {
                run(way, cap);
                if (hits >= wanted) {
                    return cap;
                }
            }
            return NONE;
        }

        void findShared(int cap) {
            run(WAY_USE, cap);
            sharedSize = 0;
            for (int i = 0; i < store.entries.size; i++) {
                insertShared(store.entries.keys[i]);
            }
            for (int way = WAY_COUNT; way <= WAY_BALANCE; way++) {
                run(way, cap);
                retainShared();
            }
        }

        private void insertShared(int key) {
            if (sharedSize >= MOST_ENTRIES) {
                return;
            }
            int at = sharedSize;
            for (; at > 0 && shared[at - 1] > key; at--) {
                shared[at] = shared[at - 1];
            }
            shared[at] = key;
            sharedSize++;
        }

        private void retainShared() {
            int left = 0;
            for (int i = 0; i < sharedSize; i++) {
                if (store.entries.find(shared[i]) != NONE) {
                    shared[left] = shared[i];
                    left++;
                }
            }
            sharedSize = left;
        }
    }
}
