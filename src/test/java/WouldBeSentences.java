import java.util.function.IntUnaryOperator;

/** Promises 22 to 26 and 30 to 34: what would be. */
final class WouldBeSentences {
    private static final int[] ODD = {-2, Integer.MIN_VALUE, Integer.MAX_VALUE};

    private WouldBeSentences() { }

    static void tell(Sentences s) {
        victim(s);
        victims(s);
        room(s);
        kept(s);
        pack(s);
        behind(s);
        turnOf(s);
        lead(s);
        logged(s);
        hot(s);
    }

    /** By use: 1 3 4 2, by count: 3 4 1 2, weights 10 5 12 12, load 39, uses 7. */
    private static TwinOrders four() {
        TwinOrders x = Make.store(40, 1, 10);
        x.get(1);
        x.put(2, 0, 5, 0);
        x.put(3, 0, 12, 0);
        x.put(4, 0, 12, 0);
        Make.getAll(x, 2, 2);
        return x;
    }

    private static void none(Due due, String call, IntUnaryOperator answers, int... at) {
        for (int a : at) {
            due.is(call + " of " + a, answers.applyAsInt(a), -1);
        }
        for (int a : ODD) {
            due.is(call + " of " + a, answers.applyAsInt(a), -1);
        }
    }

    private static void victim(Sentences s) {
        s.of(22, "The KEY that would be EVICTED first now by a WAY (0 .. 4).", due -> {
            TwinOrders x = four();
            due.first("victim(way)", x::victim, 1, 3, 1, 3, 3);
            x.way(2);
            x.put(5, 0, 2, 0);
            due.is("one went by WAY 2: by ORDER 1", x.victim(2), 3);
            x.way(0);
            due.is("whatever the WAY is", x.victim(2), 3);
            due.is("none is EVICTED by it", x.count(11), 1);
            x.pin(3, true);
            due.first("3 is PINNED", x::victim, 4, 4, 4, 4, 4);
        }).broken("store.choose(way, NONE)", "store.choose(store.way, NONE)");
        s.of(22, "NONE: none can", due -> {
            due.row("nothing there", way -> new TwinOrders().victim(way));
            TwinOrders x = four();
            Make.pinAll(x, 1, 4);
            none(due, "victim, all PINNED", x::victim, 0, 1, 2, 3, 4);
            x.pin(2, false);
            due.first("2 alone can", x::victim, 2, 2, 2, 2, 2);
        }).broken("return has(slot) ? keys[slot] : NONE;", "return keys[Math.max(slot, 0)];");
        s.of(22, "or there is no such WAY.", due -> none(due, "victim", four()::victim, -1, 5, 6))
            .broken("case WAY_USE:\n                    return entries",
                "case WAY_FUTURE:\n                case WAY_USE:\n                    return entries")
            .broken("case WAY_USE:\n                    return entries",
                "case -1:\n                case WAY_USE:\n                    return entries");
    }

    private static void victims(Sentences s) {
        s.of(23, "Were a KEY that is not there (none of ENTRIES, none of GHOSTS) PUT now with a WEIGHT: how many would be EVICTED "
            + "(k NONE), the k-th KEY.", due -> {
                TwinOrders x = four();
                due.is("1 fits", x.victims(1, -1), 0);
                due.is("2 does not", x.victims(2, -1), 1);
                due.is("11: as much as CAP", x.victims(11, -1), 1);
                due.is("12", x.victims(12, -1), 2);
                due.is("40: all", x.victims(40, -1), 4);
                int[][] at = {{1, 3, 4, 2}, {3, 4, 1, 2}, {1, 3, 4, 2}, {3, 4, 1, 2}, {3, 4, 1, 2}};
                for (int way = 0; way <= 4; way++) {
                    x.way(way);
                    due.row("WAY " + way + ", victims(40, k)", k -> x.victims(40, k), at[way]);
                }
                due.is("none is EVICTED by it", x.count(11), 0);
                TwinOrders full = Make.many(60);
                due.row("of 60 one", k -> full.victims(1, k), 0);
                full.resize(60);
                due.is("of 60 all", full.victims(60, -1), 60);
                due.is("the last of 60", full.victims(60, 59), 59);
            }).broken("store.isTight(weight)", "store.isTight(weight - 1)")
            .broken("for (int i = 0; i < MOST_ENTRIES && store.isTight(weight); i++) {",
                "for (int i = 1; i < MOST_ENTRIES && store.isTight(weight); i++) {")
            .broken("store.isTight(weight)", "store.isTight(weight + 1)")
            .broken("? gone.keys[k] : NONE", "? gone.keys[gone.size - 1 - k] : NONE");
        s.of(23, "(none of ENTRIES, none of GHOSTS)", due -> {
            TwinOrders x = Make.balanced(20, 5);
            x.way(4);
            x.put(1, 0, 10, 0);
            x.get(1);
            x.put(2, 0, 5, 0);
            // BALANCE stays 5. The YOUNG weigh 5: the OLD one would go; for an OLD GHOST BALANCE would be 0, so 2.
            due.row("victims(6, k)", k -> x.victims(6, k), 1);
            x.put(3, 0, 1, 0);
            // The YOUNG weigh 6: a YOUNG one would go; for a YOUNG GHOST BALANCE would be 11, so 1.
            due.row("victims(6, k)", k -> x.victims(6, k), 2);
        })
            .broken("Store store = layStore();\n        for (int i",
                "Store store = layStore();\n        store.balance = 0;\n        for (int i")
            .broken("Store store = layStore();\n        for (int i",
                "Store store = layStore();\n        store.balance += weight;\n        for (int i");
        s.of(23, "NONE when it would be REJECTED", due -> {
            TwinOrders x = four();
            none(due, "victims(41, k)", k -> x.victims(41, k), -1, 0);
            x.pin(3, true);
            due.is("28 beside 12 PINNED", x.victims(28, -1), 3);
            none(due, "victims(29, k)", k -> x.victims(29, k), -1, 0);
            TwinOrders full = Make.many(60);
            Make.pinAll(full, 0, 59);
            none(due, "60, all PINNED", k -> full.victims(1, k), -1, 0);
        }).broken("!isWeight(weight) || now.store.rejects(NONE, weight)", "!isWeight(weight)");
        s.of(23, "there is none such", due -> {
            TwinOrders x = four();
            none(due, "victims(40, k)", k -> x.victims(40, k), 4, 5, 60, 100);
            none(due, "victims(1, k)", k -> x.victims(1, k), 0, 1);
        }).broken("within(k, 0, gone.size - 1)", "within(k, 0, gone.size)")
            .broken("within(k, 0, gone.size - 1)", "k < gone.size && k > -3");
        s.of(23, "WEIGHT can't be.", due -> {
            TwinOrders x = Make.store(5000);
            none(due, "victims(w, -1)", w -> x.victims(w, -1), 0, -1, 100);
            due.is("1", x.victims(1, -1), 0);
            due.is("99", x.victims(99, -1), 0);
        }).broken("!isWeight(weight) || now.store.rejects(NONE, weight)", "now.store.rejects(NONE, weight)");
    }

    private static void room(Sentences s) {
        s.of(24, "The greatest WEIGHT that a KEY that is not there could have now without being REJECTED", due -> {
            TwinOrders x = four();
            due.is("CAP", x.room(0), 40);
            x.pin(3, true);
            due.is("CAP less PINNED ones", x.room(0), 28);
            due.is("so much comes", x.put(9, 0, 28, 0), 1);
            due.is("one more is REJECTED", x.put(8, 0, 29, 0), -1);
        }).broken("store.cap - store.entries.pinnedLoad", "store.cap")
            .broken("store.cap - store.entries.pinnedLoad", "store.cap - store.entries.load");
        s.of(24, "(0: none; 99 at most)", due -> {
            due.is("CAP 0", Make.store(0).room(0), 0);
            TwinOrders x = Make.store(10, 1, 10);
            x.pin(1, true);
            due.is("all PINNED, CAP full", x.room(0), 0);
            due.is("CAP 98", Make.store(98).room(0), 98);
            due.is("CAP 100", Make.store(100).room(0), 99);
            due.is("CAP 5000", Make.store(5000).room(0), 99);
            TwinOrders full = Make.many(60);
            due.is("60, one may go", full.room(0), 99);
            Make.pinAll(full, 0, 59);
            due.is("60, all PINNED", full.room(0), 0);
            full.remove(7);
            due.is("59, all PINNED", full.room(0), 99);
        }).broken("return stuck ? 0 : Math.min(MOST_WEIGHT, ", "return stuck ? 0 : Math.min(MOST_WEIGHT + 1, ")
            .broken("return stuck ? 0 : ", "return ")
            .broken("boolean stuck = full && ", "boolean stuck = ");
        s.of(24, "what 1: without anything being EVICTED.", due -> {
            TwinOrders x = four();
            due.is("CAP less LOAD", x.room(1), 1);
            x.put(5, 0, 1, 0);
            due.is("full", x.room(1), 0);
            due.is("99 at most", Make.store(5000, 1, 1).room(1), 99);
            TwinOrders full = Make.many(60);
            due.is("60", full.room(1), 0);
            full.remove(3);
            due.is("59", full.room(1), 99);
            due.is("CAP 0", Make.store(0).room(1), 0);
        })
            .broken("return full ? 0 : Math.min(MOST_WEIGHT, store.cap - store.entries.load);",
                "return Math.min(MOST_WEIGHT, store.cap - store.entries.load);")
            .broken("return full ? 0 : Math.min(MOST_WEIGHT, store.cap - store.entries.load);",
                "return full ? 0 : store.cap - store.entries.load;");
        s.of(24, "NONE for others.", due -> none(due, "room", four()::room, -1, 2, 3))
            .broken("case 1:\n                return full",
                "case 1:\n            case 2:\n                return full")
            .broken("case 1:\n                return full",
                "case -1:\n            case 1:\n                return full");
    }

    private static void kept(Sentences s) {
        s.of(25, "Were resize() called with a CAP: how many ENTRIES would be left (k NONE), the k-th KEY by ORDER 0.", due -> {
            TwinOrders x = four();
            due.is("as much as LOAD", x.kept(39, -1), 4);
            due.is("one less", x.kept(38, -1), 3);
            due.row("kept(38, k)", k -> x.kept(38, k), 3, 4, 2);
            due.is("CAP 0", x.kept(0, -1), 0);
            due.is("CAP 5000", x.kept(5000, -1), 4);
            x.way(1);
            due.row("by WAY 1", k -> x.kept(38, k), 1, 4, 2);
            x.pin(3, true);
            due.row("PINNED alone", k -> x.kept(12, k), 3);
            due.is("all are there", x.count(0), 4);
            due.is("CAP as it was", x.count(2), 40);
        })
            .broken("store.entries.size : store.entries.keyAt(BY_USE, k)",
                "store.entries.size : store.entries.keyAt(BY_COUNT, k)")
            .broken("return k == NONE ? store.entries.size", "return k == NONE ? store.happened[EVICTED]");
        s.of(25, "NONE when it would be refused", due -> {
            TwinOrders x = four();
            none(due, "kept(cap, -1)", cap -> x.kept(cap, -1), -1, 5001);
            x.pin(3, true);
            none(due, "PINNED ones above", k -> x.kept(11, k), -1, 0);
            due.is("as much as PINNED ones", x.kept(12, -1), 1);
        }).broken("if (store.recap(cap) < 0) {", "store.recap(cap);\n        if (false) {")
            .broken("if (store.recap(cap) < 0) {", "if (store.recap(cap) == BAD_NUMBERS) {");
        s.of(25, "or there is none such.", due -> {
            TwinOrders x = four();
            none(due, "kept(38, k)", k -> x.kept(38, k), 3, 4, 60);
            none(due, "kept(0, k)", k -> x.kept(0, k), 0);
        }).broken("if (placeOf(order, i) == place) {", "if (placeOf(order, i) == place || i == size - 1) {")
            .broken("return k == NONE ? store.entries.size", "return k < 0 ? store.entries.size");
    }

    private static void pack(Sentences s) {
        s.of(26, "The most COUNTS together of ENTRIES, all PINNED ones among them, whose WEIGHTS together are c (0 .. "
            + "5000) or less", due -> {
            TwinOrders x = four();
            // Weights 10 5 12 12 with counts 2 3 1 1.
            int[][] at = {{0, 0}, {4, 0}, {5, 3}, {9, 3}, {14, 3}, {15, 5}, {26, 5}, {27, 6}, {38, 6}, {39, 7}, {40, 7}, {5000, 7}};
            for (int[] a : at) {
                due.is("pack(" + a[0] + ")", x.pack(a[0]), a[1]);
            }
            x.pin(3, true);
            int[][] pinned = {{12, 1}, {16, 1}, {17, 4}, {22, 4}, {27, 6}, {38, 6}, {39, 7}};
            for (int[] a : pinned) {
                due.is("3 PINNED, pack(" + a[0] + ")", x.pack(a[0]), a[1]);
            }
            TwinOrders heavy = Make.store(5000);
            for (int key = 0; key < 60; key++) {
                heavy.put(key, 0, key < 20 ? 84 : 83, 0);
            }
            due.is("LOAD", heavy.count(1), 5000);
            due.is("all of 5000", heavy.pack(5000), 60);
            due.is("one less", heavy.pack(4999), 59);
            heavy.resize(0);
            heavy.resize(99);
            heavy.put(1, 0, 99, 0);
            heavy.get(1);
            due.is("one, twice used", heavy.pack(99), 2);
            heavy.remove(1);
            heavy.put(2, 0, 99, 0);
            due.is("nothing is left of what was packed before", heavy.pack(99), 1);
            due.is("nothing there", new TwinOrders().pack(5000), 0);
        }).broken("for (int w = free; w >= weight; w--) {", "for (int w = weight; w <= free; w++) {")
            .broken("for (int w = free; w >= weight; w--) {", "for (int w = free; w > weight; w--) {")
            .broken("return pinnedCounts + packed[free];", "return packed[free];")
            .broken("Arrays.fill(packed, 0, free + 1, 0);", "")
            .broken("Arrays.fill(packed, 0, free + 1, 0);", "Arrays.fill(packed, 0, free, 0);")
            .broken("if (all.pinned[i]) {\n                pinnedCounts", "if (false) {\n                pinnedCounts");
        s.of(26, "NONE when PINNED ones are above c", due -> {
            TwinOrders x = four();
            x.pin(3, true);
            x.pin(2, true);
            due.is("as much as PINNED ones", x.pack(17), 4);
            due.is("one less", x.pack(16), -1);
            due.is("0", x.pack(0), -1);
        }).broken("!isCap(c) || all.pinnedLoad > c", "!isCap(c) || all.pinnedLoad >= c")
            .broken("!isCap(c) || all.pinnedLoad > c",
                "!isCap(c)",
                "if (!isCap(free)) {\n            return NONE;",
                "if (!isCap(free)) {\n            return 0;");
        s.of(26, "or c can't be.", due -> none(due, "pack", new TwinOrders()::pack, -1, 5001))
            .broken("!isCap(c) || all.pinnedLoad > c", "c < 0 || all.pinnedLoad > c")
            .broken("!isCap(c) || all.pinnedLoad > c",
                "c > MOST_CAP || all.pinnedLoad > Math.max(c, 0)",
                "int free = Math.min(c, all.load) - all.pinnedLoad;",
                "int free = Math.max(0, Math.min(c, all.load) - all.pinnedLoad);");
    }

    private static void behind(Sentences s) {
        s.of(30, "Were there n USES (1 .. 99) of the ENTRY of a KEY and nothing else", due -> {
            TwinOrders x = four();
            due.is("n 1", x.behind(3, 1, 0), 2);
            due.is("n 99", x.behind(2, 99, 0), (3 + 93) / 2 + 6);
            due.is("n 0", x.behind(3, 0, 0), -1);
            due.is("n 100", x.behind(3, 100, 0), -1);
            none(due, "n", n -> x.behind(3, n, 0), -1);
            due.is("nothing is done", x.count(5), 7);
        }).broken("MOST_PAPER_USES = 99", "MOST_PAPER_USES = 98")
            .broken("MOST_PAPER_USES = 99", "MOST_PAPER_USES = 100")
            .broken("within(n, 1, MOST_PAPER_USES)", "within(n, 0, MOST_PAPER_USES)")
            .broken("within(n, 1, MOST_PAPER_USES)", "within(n, 2, MOST_PAPER_USES)");
        s.of(30, "0 its COUNT, 1 its place in ORDER 1, 2 how often COUNTS would be halved.", due -> {
            TwinOrders x = four();
            due.is("COUNT", x.behind(3, 2, 0), 3);
            due.is("place: of like ones the last", x.behind(3, 1, 1), 2);
            due.is("place", x.behind(3, 2, 1), 3);
            due.is("USES would be 99", x.behind(3, 92, 2), 0);
            due.is("USES would be 100", x.behind(3, 93, 2), 1);
            due.is("COUNT halved", x.behind(3, 93, 0), 47);
            x.aging(1);
            due.is("each time", x.behind(3, 99, 2), 99);
            due.is("1 at least", x.behind(3, 99, 0), 1);
            due.is("all are halved, it is used last", x.behind(3, 99, 1), 3);
            x.get(1);
            due.is("halved before is aside", x.behind(3, 5, 2), 5);
        })
            .broken("case 0: return all.counts[slot];\n            case 1: return all.placeOf(BY_COUNT, slot);",
                "case 0: return all.lasts[slot];\n            case 1: return all.placeOf(BY_COUNT, slot);")
            .broken("case 1: return all.placeOf(BY_COUNT, slot);\n            default",
                "case 1: return all.placeOf(BY_USE, slot);\n            default")
            .broken("default: return all.halvings - halvedBefore;", "default: return all.halvings;")
            .broken("for (int i = 0; i < n; i++) {\n            all.use(slot);",
                "for (int i = 1; i < n; i++) {\n            all.use(slot);");
        s.of(30, "NONE when there is none such", due -> {
            TwinOrders x = four();
            for (int what = 0; what <= 2; what++) {
                int asked = what;
                none(due, "KEY", key -> x.behind(key, 1, asked), -1, 0, 5, 999, 1000);
            }
        })
            .broken("int slot = all.find(key);\n        if (slot == NONE) {\n            return NONE;",
                "int slot = Math.max(0, all.find(key));\n        if (slot == NONE) {\n            return NONE;");
        s.of(30, "or for others.", due -> {
            TwinOrders x = four();
            none(due, "what", what -> x.behind(3, 1, what), -1, 3);
        })
            .broken("!within(n, 1, MOST_PAPER_USES) || !within(what, 0, 2)",
                "!within(n, 1, MOST_PAPER_USES) || !within(what, 0, 3)")
            .broken("!within(n, 1, MOST_PAPER_USES) || !within(what, 0, 2)",
                "!within(n, 1, MOST_PAPER_USES) || !within(what, -1, 2)");
    }

    private static void turnOf(Sentences s) {
        s.of(31, "How many EVICTIONS by the WAY now, one behind the other and nothing else (on paper), there are "
            + "ahead of that of a KEY.", due -> {
            TwinOrders x = four();
            int[][] at = {{0, 3, 1, 2}, {2, 3, 0, 1}, {0, 3, 1, 2}, {2, 3, 0, 1}, {2, 3, 0, 1}};
            for (int way = 0; way <= 4; way++) {
                x.way(way);
                due.first("WAY " + way, k -> x.turnOf(k + 1), at[way]);
            }
            x.way(0);
            x.pin(3, true);
            due.is("PINNED ones are passed over", x.turnOf(4), 1);
            due.is("nothing is done", x.count(0), 4);
            TwinOrders full = Make.many(60);
            due.is("59 ahead", full.turnOf(59), 59);
            due.is("none ahead", full.turnOf(0), 0);
        })
            .broken("for (int ahead = 0; ahead < MOST_ENTRIES; ahead++) {",
                "for (int ahead = 0; ahead < MOST_ENTRIES - 1; ahead++) {")
            .broken("int goes = store.choose(store.way, NONE);", "int goes = store.choose(WAY_USE, NONE);")
            .broken("return ahead;", "return ahead + 1;");
        s.of(31, "by the WAY now, one behind the other", due -> {
            TwinOrders x = Make.balanced(40, 7);
            x.way(4);
            x.put(1, 0, 5, 0);
            x.put(2, 0, 5, 0);
            x.put(3, 0, 5, 0);
            x.get(3);
            // YOUNG 10, above 7: 1; then 5, not above: 3; then 2.
            due.first("WAY 4", k -> x.turnOf(k + 1), 0, 2, 1);
            TwinOrders y = Make.store(40, 1, 1, 2, 1, 3, 1, 4, 1);
            Make.getAll(y, 1, 2, 2, 3, 3, 3, 4);
            y.way(2);
            // By use 1 2 3 4, by count 1 4 2 3: 1, then by count 4, then by use 2, then 3.
            due.first("WAY 2", k -> y.turnOf(k + 1), 0, 2, 3, 1);
        })
            .broken("store.evict(goes);\n        }\n        return NONE;",
                "store.lose(EXPIRED, goes);\n        }\n        return NONE;")
            .broken("entries.youngLoad() > balance", "entries.youngLoad() > 0");
        s.of(31, "NONE when it is PINNED", due -> {
            TwinOrders x = four();
            x.pin(1, true);
            due.is("PINNED", x.turnOf(1), -1);
            due.is("not", x.turnOf(3), 0);
        })
            .broken("if (slot == NONE || store.entries.pinned[slot]) {",
                "if (slot == NONE) {\n            return NONE;\n        }\n"
                + "        if (store.entries.pinned[slot]) {\n            store.entries.fasten(slot, false);\n"
                + "        }\n        if (false) {");
        s.of(31, "or there is none such.", due -> none(due, "turnOf", four()::turnOf, -1, 0, 5, 999, 1000))
            .broken("if (store.entries.keyOf(goes) == key) {",
                "if (store.entries.keyOf(goes) == key || key < 1) {",
                "if (slot == NONE || store.entries.pinned[slot]) {",
                "if (slot != NONE && store.entries.pinned[slot]) {");
    }

    private static void lead(Sentences s) {
        s.of(32, "WEIGHTS together of the first n (0 and on; of all, if there are fewer) by an ORDER.", due -> {
            TwinOrders x = four();
            due.first("lead(0, n)", n -> x.lead(0, n), 0, 10, 22, 34, 39, 39, 39);
            due.first("lead(1, n)", n -> x.lead(1, n), 0, 12, 24, 34, 39, 39, 39);
            due.is("of all", x.lead(0, Integer.MAX_VALUE), 39);
            due.is("nothing there", new TwinOrders().lead(1, 3), 0);
            x.remove(4);
            due.first("4 is gone", n -> x.lead(0, n), 0, 10, 22, 27, 27);
            TwinOrders full = Make.many(60);
            due.is("59 of 60", full.lead(1, 59), 59);
            due.is("60 of 60", full.lead(1, 60), 60);
        }).broken("if (placeOf(order, i) < place) {", "if (placeOf(order, i) <= place) {")
            .broken("int sum = 0;\n            for (int i = 0; i < size; i++) {\n                if (placeOf",
                "int sum = 0;\n            for (int i = 0; i <= size; i++) {\n                if (placeOf")
            .broken("if (place >= size) {\n                return load;",
                "if (place >= size) {\n                return NONE;")
            .broken("if (placeOf(order, i) < place) {", "if (placeOf(BY_USE, i) < place) {");
        s.of(32, "NONE when n", due -> {
            TwinOrders x = four();
            due.is("lead(0, -1)", x.lead(0, -1), -1);
            due.is("lead(1, -2)", x.lead(1, -2), -1);
            due.is("the least n", x.lead(0, Integer.MIN_VALUE), -1);
        }).broken("isOrder(order) && n >= 0", "isOrder(order)")
            .broken("isOrder(order) && n >= 0", "isOrder(order) && n >= -1");
        s.of(32, "the ORDER can't be.", due -> {
            TwinOrders x = four();
            none(due, "ORDER", order -> x.lead(order, 1), -1, 2);
            none(due, "ORDER, of all", order -> x.lead(order, 99), -1, 2);
        }).broken("isOrder(order) && n >= 0", "n >= 0")
            .broken("isOrder(order) && n >= 0", "order <= 1 && n >= 0");
    }

    /** MISSED 4, MISSED 5 by an act, CAME 5, MISSED 4: the listener hears even keys. */
    private static TwinOrders fourLogged() {
        TwinOrders x = new TwinOrders();
        x.listen(5, 2, 0, 2, 1, 0);
        x.get(4);
        x.put(5, 0, 1, 0);
        x.get(4);
        return x;
    }

    private static void logged(Sentences s) {
        s.of(33, "How many EVENTS of THE LOG are of a kind (what 0), the greatest DEPTH of these (1", due -> {
            TwinOrders x = fourLogged();
            due.first("logged(kind, 0)", kind -> x.logged(kind, 0), 1, 0, 0, 0, 0, 3, 0);
            due.is("DEPTH", x.logged(5, 1), 1);
            due.is("DEPTH", x.logged(0, 1), 0);
            for (int i = 0; i < 37; i++) {
                x.put(5, 0, 1, 0);
            }
            due.is("40 in all: the first one went", x.logged(5, 0), 2);
            due.is("DEPTH", x.logged(5, 1), 1);
            x.put(5, 0, 1, 0);
            due.is("the second one went", x.logged(5, 0), 1);
            due.is("and its DEPTH", x.logged(5, 1), 0);
            TwinOrders one = Make.asked(7);
            due.is("one alone", one.logged(5, 0), 1);
            due.is("its DEPTH", one.logged(5, 1), 0);
        }).broken("case 0: return now.log.howMany(kind);", "case 0: return now.store.happened[kind];")
            .broken("found = Math.max(found, depths[i]);", "found = depths[i];")
            .broken("case 1: return now.log.deepest(kind);", "case 1: return now.deepest;")
            .broken("int found = NONE;\n            for (int i = 0; i < size; i++) {\n                if (kinds[i] == kind) {",
                "int found = NONE;\n            for (int i = 1; i < size; i++) {\n                if (kinds[i] == kind) {");
        s.of(33, "(1; NONE without)", due -> {
            TwinOrders x = fourLogged();
            for (int kind : new int[] {1, 2, 3, 4, 6}) {
                due.is("logged(" + kind + ", 1)", x.logged(kind, 1), -1);
                due.is("logged(" + kind + ", 0)", x.logged(kind, 0), 0);
                due.is("logged(" + kind + ", 2)", x.logged(kind, 2), 0);
            }
            due.is("nothing heard", new TwinOrders().logged(0, 1), -1);
        })
            .broken("int deepest(int kind) {\n            int found = NONE;",
                "int deepest(int kind) {\n            int found = 0;");
        s.of(33, "how many of these no LISTENER heard (2).", due -> {
            TwinOrders x = fourLogged();
            due.is("MISSED 5", x.logged(5, 2), 1);
            due.is("CAME 5", x.logged(0, 2), 1);
            x.turn(0, false);
            x.get(8);
            due.is("MISSED 8, as it is not ON", x.logged(5, 2), 2);
            due.is("one alone", Make.asked(7).logged(5, 2), 1);
        }).broken("kinds[i] == kind && hearers[i] == 0", "kinds[i] == kind && hearers[i] != 0")
            .broken("kinds[i] == kind && hearers[i] == 0", "hearers[i] == 0")
            .broken("for (int i = 0; i < size; i++) {\n                if (kinds[i] == kind && hearers",
                "for (int i = 1; i < size; i++) {\n                if (kinds[i] == kind && hearers");
        s.of(33, "NONE when there is no such kind", due -> {
            TwinOrders x = fourLogged();
            for (int what = 0; what <= 2; what++) {
                int asked = what;
                none(due, "kind", kind -> x.logged(kind, asked), -1, 7);
            }
        }).broken("if (!within(kind, 0, KINDS - 1)) {", "if (!within(kind, NONE, KINDS - 1)) {")
            .broken("if (!within(kind, 0, KINDS - 1)) {", "if (!within(kind, 0, KINDS)) {");
        s.of(33, "or for others.", due -> {
            TwinOrders x = fourLogged();
            none(due, "what", what -> x.logged(5, what), -1, 3);
        })
            .broken("case 2: return now.log.unheard(kind);\n            default: return NONE;",
                "case 2: return now.log.unheard(kind);\n            default: return 0;")
            .broken("case 2: return now.log.unheard(kind);", "case 2: case 3: return now.log.unheard(kind);");
    }

    private static void hot(Sentences s) {
        s.of(34, "The k-th of the unlike KEYS among REQUESTS, the one requested most often ahead", due -> {
            TwinOrders x = Make.asked(3, 7, 3, 9, 7, 7);
            x.put(9, 0, 1, 0);
            x.put(9, 0, 1, 0);
            x.put(9, 0, 1, 0);
            due.row("hot(k, 0)", k -> x.hot(k, 0), 9, 7, 3);
            for (int key = 100; key < 199; key++) {
                x.get(key);
            }
            due.is("the latest 100 alone: 9 once", x.hot(0, 0), 9);
            due.is("the last", x.hot(99, 0), 198);
        }).broken("often[i] > often[at]", "often[i] < often[at]");
        s.of(34, "of like ones the least KEY (what 0)", due -> {
            TwinOrders x = Make.asked(7, 3, 9, 3, 7, 1, 2);
            due.row("hot(k, 0)", k -> x.hot(k, 0), 3, 7, 1, 2, 9);
        }).broken("keys[i] < keys[at]", "keys[i] > keys[at]");
        s.of(34, "how often (1)", due -> {
            TwinOrders x = Make.asked(7, 3, 9, 3, 7, 7, 2);
            due.row("hot(k, 1)", k -> x.hot(k, 1), 3, 2, 1, 1);
            TwinOrders same = new TwinOrders();
            for (int i = 0; i < 101; i++) {
                same.get(5);
            }
            due.is("100 at most", same.hot(0, 1), 100);
        }).broken("case 1: return anew.often[at];", "case 1: return anew.often[at] - 1;")
            .broken("case 1: return anew.often[at];", "case 1: return k + 1;");
        s.of(34, "k NONE (whatever what): how many unlike ones.", due -> {
            TwinOrders x = Make.asked(7, 3, 9, 3, 7, 7, 2);
            for (int what : new int[] {0, 1, 2, -1, Integer.MIN_VALUE, Integer.MAX_VALUE}) {
                due.is("hot(-1, " + what + ")", x.hot(-1, what), 4);
            }
            due.is("none", new TwinOrders().hot(-1, 0), 0);
            TwinOrders many = new TwinOrders();
            for (int key = 0; key < 101; key++) {
                many.get(key);
            }
            due.is("100", many.hot(-1, 0), 100);
        }).broken("return anew.unlike();", "return within(what, 0, 1) ? anew.unlike() : NONE;")
            .broken("return anew.unlike();", "return anew.size;");
        s.of(34, "NONE when there is none such", due -> {
            TwinOrders x = Make.asked(7, 3, 9, 3, 7, 7, 2);
            none(due, "hot(k, 0)", k -> x.hot(k, 0), 4, 5, 99, 100);
            none(due, "hot(k, 1)", k -> x.hot(k, 1), 4, 5, 99, 100);
            TwinOrders many = new TwinOrders();
            for (int key = 0; key < 100; key++) {
                many.get(key);
            }
            none(due, "hot(k, 0) of 100", k -> many.hot(k, 0), 100, 101);
            due.is("nothing requested", new TwinOrders().hot(0, 0), -1);
        }).broken("if (often[i] > 0 && hotterThan(i) == k) {", "if (hotterThan(i) == k) {")
            .broken("if (k == NONE) {\n            return anew.unlike();",
                "if (k < 0) {\n            return anew.unlike();");
        s.of(34, "or for others.", due -> {
            TwinOrders x = Make.asked(7, 3, 9, 3, 7, 7, 2);
            none(due, "hot(0, what)", what -> x.hot(0, what), -1, 2);
        })
            .broken("case 1: return anew.often[at];\n            default: return NONE;",
                "case 1: return anew.often[at];\n            default: return 0;")
            .broken("case 1: return anew.often[at];", "case 1: case 2: return anew.often[at];");
    }
}
