import java.util.ArrayDeque;
import java.util.ArrayList;
import java.util.Comparator;
import java.util.Deque;
import java.util.HashMap;
import java.util.HashSet;
import java.util.List;
import java.util.Map;
import java.util.Set;
import java.util.TreeMap;
import java.util.TreeSet;
import java.util.stream.Collectors;

/**
 * The document once more, written from its words with lists, sorting and whole copies and without
 * any care for speed, so that a slip in the class and the same slip here are unlikely.
 */
public final class Model {
    static final class Item {
        int key;
        int value;
        int weight;
        int count;
        int last;
        int till = -1;
        boolean pinned;

        Item copy() {
            Item c = new Item();
            c.key = key;
            c.value = value;
            c.weight = weight;
            c.count = count;
            c.last = last;
            c.till = till;
            c.pinned = pinned;
            return c;
        }
    }

    static final class Ear {
        final int kind;
        final int m;
        final int r;
        final int act;
        final int d;
        final int w;
        boolean on = true;
        int heard;
        int did;

        Ear(int kind, int m, int r, int act, int d, int w) {
            this.kind = kind;
            this.m = m;
            this.r = r;
            this.act = act;
            this.d = d;
            this.w = w;
        }

        Ear copy() {
            Ear c = new Ear(kind, m, r, act, d, w);
            c.on = on;
            c.heard = heard;
            c.did = did;
            return c;
        }

        boolean takes(int k, int key) {
            return (kind == -1 || kind == k) && key % m == r;
        }
    }

    record Happening(int kind, int key, int value, int weight, int depth) { }

    record Heard(Happening what, int by) { }

    static final Comparator<Item> BY_USE = Comparator.comparingInt(e -> e.last);
    static final Comparator<Item> BY_COUNT =
            Comparator.<Item>comparingInt(e -> e.count).thenComparingInt(e -> e.last);

    List<Item> items = new ArrayList<>();
    List<Ear> ears = new ArrayList<>();
    List<List<Integer>> ghosts = List.of(new ArrayList<>(), new ArrayList<>());
    List<Heard> heardAll = new ArrayList<>();
    List<Integer> asked = new ArrayList<>();
    int cap = 40;
    int now;
    int aging = 100;
    int uses;
    int way;
    int balance;
    int wentBy2;
    int got;
    int lost;
    int halved;
    int deepest;
    int[] tally = new int[7];

    Deque<Happening> queue = new ArrayDeque<>();
    int depthNow;
    int heardByThisCall;
    int lostByThisCall;
    final Model[] images = new Model[2];

    /** What comes, for WAY 5 alone. */
    List<Integer> future = List.of();

    Model copy() {
        Model c = new Model();
        c.take(this);
        return c;
    }

    void take(Model o) {
        items = o.items.stream().map(Item::copy).collect(Collectors.toCollection(ArrayList::new));
        ears = o.ears.stream().map(Ear::copy).collect(Collectors.toCollection(ArrayList::new));
        ghosts = List.of(new ArrayList<>(o.ghosts.get(0)), new ArrayList<>(o.ghosts.get(1)));
        heardAll = new ArrayList<>(o.heardAll);
        asked = new ArrayList<>(o.asked);
        cap = o.cap;
        now = o.now;
        aging = o.aging;
        uses = o.uses;
        way = o.way;
        balance = o.balance;
        wentBy2 = o.wentBy2;
        got = o.got;
        lost = o.lost;
        halved = o.halved;
        deepest = o.deepest;
        tally = o.tally.clone();
    }

    // ---- helpers

    Item at(int key) {
        return items.stream().filter(e -> e.key == key).findFirst().orElse(null);
    }

    int load() {
        return items.stream().mapToInt(e -> e.weight).sum();
    }

    int pinnedLoad() {
        return items.stream().filter(e -> e.pinned).mapToInt(e -> e.weight).sum();
    }

    List<Item> sorted(int order) {
        return items.stream().sorted(order == 0 ? BY_USE : BY_COUNT).toList();
    }

    static boolean in(int x, int a, int b) {
        return a <= x && x <= b;
    }

    void emit(int kind, int key, int value, int weight) {
        tally[kind]++;
        queue.addLast(new Happening(kind, key, value, weight, depthNow));
    }

    void useOf(Item e) {
        uses++;
        e.last = uses;
        e.count = Math.min(999999, e.count + 1);
        if (uses % aging == 0) {
            halved++;
            for (Item x : items) {
                x.count = Math.max(1, x.count / 2);
            }
        }
    }

    Item pick(int by, Item spared) {
        List<Item> can = sorted(0).stream().filter(e -> !e.pinned && e != spared).toList();
        if (can.isEmpty()) {
            return null;
        }
        switch (by) {
            case 0:
                return can.get(0);
            case 1:
                return can.stream().min(BY_COUNT).get();
            case 2:
                return pick(wentBy2 % 2, spared);
            case 3: {
                int most = can.stream().mapToInt(e -> e.weight).max().getAsInt();
                return can.stream().filter(e -> e.weight == most).findFirst().get();
            }
            case 4: {
                int youngs = items.stream().filter(e -> e.count == 1).mapToInt(e -> e.weight).sum();
                boolean wantYoung = youngs > balance;
                return can.stream().filter(e -> (e.count == 1) == wantYoung).findFirst()
                        .orElse(can.get(0));
            }
            case 5: {
                Comparator<Item> far = Comparator.comparingInt(e -> {
                    int i = future.indexOf(e.key);
                    return i < 0 ? -1000 : -i;
                });
                return can.stream().min(far.thenComparingInt(e -> e.key)).get();
            }
            default:
                return null;
        }
    }

    Item evictOne(Item spared) {
        Item e = pick(way, spared);
        items.remove(e);
        if (way == 2) {
            wentBy2++;
        }
        for (List<Integer> g : ghosts) {
            g.remove((Integer) e.key);
        }
        List<Integer> mine = ghosts.get(e.count == 1 ? 0 : 1);
        mine.add(0, e.key);
        if (mine.size() > 16) {
            mine.remove(16);
        }
        emit(2, e.key, e.value, e.weight);
        return e;
    }

    int doPut(int key, int value, int weight, int till) {
        Item e = at(key);
        int pinnedOthers = items.stream().filter(x -> x.pinned && x.key != key)
                .mapToInt(x -> x.weight).sum();
        if (weight + pinnedOthers > cap
                || (e == null && items.size() == 60 && items.stream().allMatch(x -> x.pinned))) {
            emit(6, key, 0, weight);
            return -1;
        }
        if (ghosts.get(0).remove((Integer) key)) {
            balance = Math.min(cap, balance + weight);
        } else if (ghosts.get(1).remove((Integer) key)) {
            balance = Math.max(0, balance - weight);
        }
        boolean fresh = e == null;
        if (fresh) {
            e = new Item();
            e.key = key;
            while (items.size() == 60) {
                evictOne(null);
            }
            while (load() + weight > cap) {
                evictOne(null);
            }
        }
        e.value = value;
        e.weight = weight;
        e.till = till;
        if (fresh) {
            items.add(e);
        } else {
            while (load() > cap) {
                evictOne(e);
            }
        }
        useOf(e);
        emit(fresh ? 0 : 1, key, value, weight);
        return fresh ? 1 : 0;
    }

    int doGet(int key) {
        Item e = at(key);
        if (e == null) {
            emit(5, key, 0, 0);
            return 0;
        }
        useOf(e);
        got++;
        return 1;
    }

    int doRemove(int key) {
        Item e = at(key);
        if (e == null) {
            return -3;
        }
        items.remove(e);
        emit(4, key, e.value, e.weight);
        return e.value + 10000;
    }

    int doPin(int key, boolean is) {
        Item e = at(key);
        if (e == null) {
            return -3;
        }
        boolean other = e.pinned != is;
        e.pinned = is;
        return other ? 1 : 0;
    }

    int doResize(int c) {
        if (!in(c, 0, 5000)) {
            return -2;
        }
        if (pinnedLoad() > c) {
            return -3;
        }
        cap = c;
        balance = Math.min(balance, cap);
        int n = 0;
        while (load() > cap) {
            evictOne(null);
            n++;
        }
        return n;
    }

    void begin() {
        queue.clear();
        depthNow = 0;
        heardByThisCall = 0;
        lostByThisCall = 0;
    }

    void hearAll() {
        while (!queue.isEmpty() && heardByThisCall < 100) {
            Happening h = queue.removeFirst();
            heardByThisCall++;
            depthNow = h.depth + 1;
            int by = 0;
            for (Ear ear : ears) {
                if (ear.on && ear.takes(h.kind, h.key)) {
                    by++;
                    ear.heard++;
                    if (doAct(ear, h)) {
                        ear.did++;
                    }
                }
            }
            heardAll.add(new Heard(h, by));
            deepest = Math.max(deepest, h.depth);
        }
        lostByThisCall = queue.size();
        lost += lostByThisCall;
        queue.clear();
    }

    boolean doAct(Ear ear, Happening h) {
        int key = ((h.key + ear.d) % 1000 + 1000) % 1000;
        switch (ear.act) {
            case 1: return doPut(key, h.value, ear.w, -1) >= 0;
            case 2: return doGet(key) == 1;
            case 3: return doRemove(key) >= 0;
            case 4: return doPin(key, true) == 1;
            case 5: return doPin(key, false) == 1;
            case 6: {
                int was = cap;
                doResize(cap + ear.d);
                return cap != was;
            }
            default: return false;
        }
    }

    void askedFor(int key) {
        asked.add(key);
        if (asked.size() > 100) {
            asked.remove(0);
        }
    }

    List<Heard> log() {
        List<Heard> l = new ArrayList<>();
        for (int i = heardAll.size() - 1; i >= 0 && l.size() < 40; i--) {
            l.add(heardAll.get(i));
        }
        return l;
    }

    static int nth(List<Integer> list, int k) {
        return in(k, 0, list.size() - 1) ? list.get(k) : -1;
    }

    static int sizeOrNth(List<Integer> list, int k) {
        return k == -1 ? list.size() : nth(list, k);
    }

    // ---- what is done

    public int put(int key, int value, int weight, int lives) {
        if (!in(key, 0, 999) || !in(value, -9999, 9999) || !in(weight, 1, 99) || !in(lives, 0, 999)) {
            return -2;
        }
        askedFor(key);
        begin();
        int a = doPut(key, value, weight, lives == 0 ? -1 : now + lives);
        hearAll();
        return a;
    }

    public int get(int key) {
        if (!in(key, 0, 999)) {
            return -2;
        }
        askedFor(key);
        begin();
        int a = doGet(key);
        hearAll();
        return a;
    }

    public int remove(int key) {
        if (!in(key, 0, 999)) {
            return -2;
        }
        begin();
        int a = doRemove(key);
        hearAll();
        return a;
    }

    public int pin(int key, boolean is) {
        return in(key, 0, 999) ? doPin(key, is) : -2;
    }

    public int resize(int c) {
        begin();
        int a = doResize(c);
        hearAll();
        return a;
    }

    public int way(int w) {
        if (!in(w, 0, 4)) {
            return -2;
        }
        int was = way;
        way = w;
        return was;
    }

    public int aging(int n) {
        if (!in(n, 1, 999)) {
            return -2;
        }
        int was = aging;
        aging = n;
        return was;
    }

    public int tick(int n) {
        if (!in(n, 1, 999)) {
            return -2;
        }
        begin();
        int all = 0;
        for (int i = 0; i < n; i++) {
            now++;
            for (Item e : sorted(0)) {
                if (e.till != -1 && e.till <= now) {
                    items.remove(e);
                    emit(3, e.key, e.value, e.weight);
                    all++;
                }
            }
        }
        hearAll();
        return all;
    }

    public int listen(int kind, int m, int r, int act, int d, int w) {
        if (!in(kind, -1, 6) || !in(m, 1, 9) || !in(r, 0, m - 1) || !in(act, 0, 6)
                || !in(d, -999, 999) || (act == 1 && !in(w, 1, 99))) {
            return -2;
        }
        if (ears.size() == 8) {
            return -3;
        }
        ears.add(new Ear(kind, m, r, act, d, w));
        return ears.size() - 1;
    }

    public int turn(int listener, boolean on) {
        if (!in(listener, 0, ears.size() - 1)) {
            return -2;
        }
        Ear e = ears.get(listener);
        boolean other = e.on != on;
        e.on = on;
        return other ? 1 : 0;
    }

    long seedNow;

    int draw(int m) {
        seedNow = (1103515245L * seedNow + 12345L) % (1L << 31);
        return (int) (Math.floorDiv(seedNow, 64L) % m);
    }

    public int chance(int seed, int n) {
        if (seed < 0 || !in(n, 0, 60)) {
            return -2;
        }
        seedNow = seed;
        int hits = 0;
        for (int i = 0; i < n; i++) {
            int a = draw(8);
            int key = draw(40);
            int weight = draw(9) + 1;
            if (a <= 3) {
                hits += get(key);
            } else if (a <= 6) {
                put(key, key, weight, 0);
            } else {
                pin(key, key % 2 == 0);
            }
        }
        return hits;
    }

    public int keep(int k) {
        if (!in(k, 0, 1)) {
            return -2;
        }
        images[k] = copy();
        return items.size();
    }

    public int back(int k) {
        if (!in(k, 0, 1)) {
            return -2;
        }
        if (images[k] == null) {
            return -3;
        }
        take(images[k]);
        return items.size();
    }

    // ---- what there is

    public int entry(int key, int what) {
        Item e = at(key);
        if (e == null || !in(what, 0, 7)) {
            return -10000;
        }
        int[] all = {e.value, e.weight, e.count, e.last, e.till, e.pinned ? 1 : 0,
            sorted(0).indexOf(e), sorted(1).indexOf(e)};
        return all[what];
    }

    public int order(int order, int k) {
        return in(order, 0, 1) ? nth(sorted(order).stream().map(e -> e.key).toList(), k) : -1;
    }

    public int ghost(int sort, int k) {
        return in(sort, 0, 1) ? nth(ghosts.get(sort), k) : -1;
    }

    public int bucket(int k, int what) {
        TreeMap<Integer, List<Item>> by = new TreeMap<>();
        for (Item e : items) {
            by.computeIfAbsent(e.count, c -> new ArrayList<>()).add(e);
        }
        if (k == -1) {
            return by.size();
        }
        if (!in(k, 0, by.size() - 1) || !in(what, 0, 2)) {
            return -1;
        }
        int c = new ArrayList<>(by.keySet()).get(k);
        int[] all = {by.get(c).size(), c, by.get(c).stream().mapToInt(e -> e.weight).sum()};
        return all[what];
    }

    public int listener(int listener, int what) {
        if (!in(listener, 0, ears.size() - 1) || !in(what, 0, 2)) {
            return -1;
        }
        Ear e = ears.get(listener);
        return new int[] {e.on ? 1 : 0, e.heard, e.did}[what];
    }

    public int heard(int k, int what) {
        List<Heard> l = log();
        if (!in(k, 0, l.size() - 1) || !in(what, 0, 4)) {
            return -1;
        }
        Happening h = l.get(k).what;
        return new int[] {h.kind, h.key, h.depth, h.weight, l.get(k).by}[what];
    }

    public int request(int k) {
        return nth(asked, k);
    }

    // ---- what would be

    public int victim(int w) {
        if (!in(w, 0, 4)) {
            return -1;
        }
        Item e = pick(w, null);
        return e == null ? -1 : e.key;
    }

    public int victims(int weight, int k) {
        if (!in(weight, 1, 99)) {
            return -1;
        }
        Model p = copy();
        int fresh = 0;
        while (p.at(fresh) != null || p.ghosts.get(0).contains(fresh) || p.ghosts.get(1).contains(fresh)) {
            fresh++;
        }
        p.begin();
        if (p.doPut(fresh, 0, weight, -1) == -1) {
            return -1;
        }
        return sizeOrNth(p.queue.stream().filter(h -> h.kind == 2).map(Happening::key).toList(), k);
    }

    public int room(int what) {
        if (!in(what, 0, 1)) {
            return -1;
        }
        for (int w = 99; w > 0; w--) {
            int n = victims(w, -1);
            if (what == 0 ? n >= 0 : n == 0) {
                return w;
            }
        }
        return 0;
    }

    public int kept(int c, int k) {
        Model p = copy();
        p.begin();
        if (p.doResize(c) < 0) {
            return -1;
        }
        return sizeOrNth(p.sorted(0).stream().map(e -> e.key).toList(), k);
    }

    public int pack(int c) {
        if (!in(c, 0, 5000) || pinnedLoad() > c) {
            return -1;
        }
        Map<Integer, Integer> bestOf = new HashMap<>();
        bestOf.put(0, 0);
        for (Item e : items) {
            Map<Integer, Integer> more = new HashMap<>();
            for (Map.Entry<Integer, Integer> b : bestOf.entrySet()) {
                more.merge(b.getKey() + e.weight, b.getValue() + e.count, Math::max);
                if (!e.pinned) {
                    more.merge(b.getKey(), b.getValue(), Math::max);
                }
            }
            bestOf = more;
        }
        int most = -1;
        for (Map.Entry<Integer, Integer> b : bestOf.entrySet()) {
            if (b.getKey() <= c) {
                most = Math.max(most, b.getValue());
            }
        }
        return most;
    }

    boolean wakes(Ear a, Ear b) {
        for (int key = 0; key < 1000; key++) {
            if (key % a.m != a.r) {
                continue;
            }
            int to = ((key + a.d) % 1000 + 1000) % 1000;
            boolean any = false;
            for (int other = 0; other < 1000; other++) {
                any |= b.takes(2, other);
            }
            boolean yes = switch (a.act) {
                case 1 -> b.takes(0, to) || b.takes(1, to) || b.takes(6, to) || any;
                case 2 -> b.takes(5, to);
                case 3 -> b.takes(4, to);
                case 6 -> a.d < 0 && any;
                default -> false;
            };
            if (yes) {
                return true;
            }
        }
        return false;
    }

    public int wakes(int listener, int other) {
        if (!in(listener, 0, ears.size() - 1) || !in(other, 0, ears.size() - 1)) {
            return -1;
        }
        return wakes(ears.get(listener), ears.get(other)) ? 1 : 0;
    }

    public int ring(int listener) {
        int n = ears.size();
        if (!in(listener, 0, n - 1)) {
            return -1;
        }
        int[][] far = new int[n][n];
        for (int i = 0; i < n; i++) {
            for (int j = 0; j < n; j++) {
                far[i][j] = wakes(ears.get(i), ears.get(j)) ? 1 : 1000;
            }
        }
        for (int k = 0; k < n; k++) {
            for (int i = 0; i < n; i++) {
                for (int j = 0; j < n; j++) {
                    far[i][j] = Math.min(far[i][j], far[i][k] + far[k][j]);
                }
            }
        }
        return far[listener][listener] >= 1000 ? 0 : far[listener][listener];
    }

    public int stir(int key, int weight, int k, int what) {
        if (!in(key, 0, 999) || !in(weight, 1, 99) || !in(what, 0, 2)) {
            return -1;
        }
        Model p = copy();
        p.heardAll.clear();
        p.put(key, 0, weight, 0);
        if (k == -1) {
            return new int[] {p.heardAll.size(), p.lost - lost, p.items.size()}[what];
        }
        if (!in(k, 0, p.heardAll.size() - 1)) {
            return -1;
        }
        Happening h = p.heardAll.get(k).what;
        return new int[] {h.kind, h.key, h.depth}[what];
    }

    public int behind(int key, int n, int what) {
        if (at(key) == null || !in(n, 1, 99) || !in(what, 0, 2)) {
            return -1;
        }
        Model p = copy();
        for (int i = 0; i < n; i++) {
            p.useOf(p.at(key));
        }
        return new int[] {p.entry(key, 2), p.entry(key, 7), p.halved - halved}[what];
    }

    public int turnOf(int key) {
        if (at(key) == null || at(key).pinned) {
            return -1;
        }
        Model p = copy();
        int n = 0;
        while (p.evictOne(null).key != key) {
            n++;
        }
        return n;
    }

    public int lead(int order, int n) {
        if (!in(order, 0, 1) || n < 0) {
            return -1;
        }
        return sorted(order).stream().limit(n).mapToInt(e -> e.weight).sum();
    }

    public int logged(int kind, int what) {
        if (!in(kind, 0, 6) || !in(what, 0, 2)) {
            return -1;
        }
        List<Heard> of = log().stream().filter(h -> h.what.kind == kind).toList();
        return switch (what) {
            case 0 -> of.size();
            case 1 -> of.stream().mapToInt(h -> h.what.depth).max().orElse(-1);
            default -> (int) of.stream().filter(h -> h.by == 0).count();
        };
    }

    public int hot(int k, int what) {
        TreeMap<Integer, Integer> often = new TreeMap<>();
        for (int key : asked) {
            often.merge(key, 1, Integer::sum);
        }
        if (k == -1) {
            return often.size();
        }
        if (!in(k, 0, often.size() - 1) || !in(what, 0, 1)) {
            return -1;
        }
        List<Integer> keys = new ArrayList<>(often.keySet());
        keys.sort(Comparator.<Integer>comparingInt(x -> -often.get(x)).thenComparingInt(x -> x));
        return what == 0 ? keys.get(k) : often.get(keys.get(k));
    }

    public int profile(int d) {
        int n = 0;
        for (int k = 0; k < asked.size(); k++) {
            if (distance(k) == d) {
                n++;
            }
        }
        return n;
    }

    public int distance(int k) {
        if (!in(k, 0, asked.size() - 1)) {
            return -1;
        }
        Set<Integer> others = new HashSet<>();
        for (int i = k - 1; i >= 0; i--) {
            if (asked.get(i).equals(asked.get(k))) {
                return others.size();
            }
            others.add(asked.get(i));
        }
        return -1;
    }

    /** Gone through anew: the store at the end, with hits and regrets beside it. */
    static final class Gone {
        final Model end = new Model();
        int hits;
        int evicted;
        List<Integer> regrets = new ArrayList<>();
    }

    Gone through(int w, int c) {
        Gone g = new Gone();
        g.end.cap = c;
        g.end.aging = 999;
        g.end.way = w;
        for (int i = 0; i < asked.size(); i++) {
            int key = asked.get(i);
            g.hits += g.end.at(key) != null ? 1 : 0;
            g.end.begin();
            g.end.future = asked.subList(i + 1, asked.size());
            g.end.doPut(key, 0, 1, -1);
            for (Happening h : g.end.queue) {
                if (h.kind == 2) {
                    g.evicted++;
                    int again = g.end.future.indexOf(h.key);
                    if (again >= 0) {
                        g.regrets.add(again + 1);
                    }
                }
            }
        }
        return g;
    }

    public int agree(int c, int k) {
        if (!in(c, 0, 60)) {
            return -1;
        }
        TreeSet<Integer> all = new TreeSet<>(asked);
        for (int w = 0; w < 5; w++) {
            all.retainAll(through(w, c).end.items.stream().map(e -> e.key).toList());
        }
        return sizeOrNth(new ArrayList<>(all), k);
    }

    public int regret(int w, int c, int what) {
        if (!in(w, 0, 5) || !in(c, 0, 60) || !in(what, 0, 1)) {
            return -1;
        }
        List<Integer> r = through(w, c).regrets;
        return what == 0 ? r.size() : r.stream().mapToInt(x -> x).min().orElse(-1);
    }

    public int replay(int w, int c, int what) {
        if (!in(w, 0, 5) || !in(c, 0, 60) || !in(what, 0, 2)) {
            return -1;
        }
        Gone g = through(w, c);
        return new int[] {g.hits, g.evicted, g.end.items.size()}[what];
    }

    public int replayed(int w, int c, int k) {
        return in(w, 0, 5) && in(c, 0, 60) ? through(w, c).end.order(0, k) : -1;
    }

    public int least(int w, int hits) {
        if (!in(w, 0, 5) || hits < 0) {
            return -1;
        }
        for (int c = 0; c <= 60; c++) {
            if (through(w, c).hits >= hits) {
                return c;
            }
        }
        return -1;
    }

    public int best(int c, int what) {
        if (!in(c, 0, 60) || !in(what, 0, 1)) {
            return -1;
        }
        int w = 0;
        for (int other = 1; other < 5; other++) {
            if (through(other, c).hits > through(w, c).hits) {
                w = other;
            }
        }
        return what == 0 ? w : through(5, c).hits - through(w, c).hits;
    }

    public int count(int what) {
        int[] all = {items.size(), load(), cap, way, balance, uses, now, aging, ears.size(), got,
            tally[5], tally[2], tally[3], tally[6], lost, asked.size(), pinnedLoad(), halved, wentBy2,
            deepest};
        return in(what, 0, all.length - 1) ? all[what] : -1;
    }
}
