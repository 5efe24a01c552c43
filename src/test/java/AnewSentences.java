import java.util.function.IntUnaryOperator;

/** Terms III and promises 35 to 42: requests gone through anew. */
final class AnewSentences {
    private static final int[] ODD = {-2, Integer.MIN_VALUE, Integer.MAX_VALUE};

    private AnewSentences() { }

    static void tell(Sentences s) {
        onPaper(s);
        hits(s);
        byWhatComes(s);
        profile(s);
        agree(s);
        regret(s);
        distance(s);
        replay(s);
        least(s);
        best(s);
    }

    private static void none(Due due, String call, IntUnaryOperator answers, int... at) {
        for (int a : at) {
            due.is(call + " of " + a, answers.applyAsInt(a), -1);
        }
        for (int a : ODD) {
            due.is(call + " of " + a, answers.applyAsInt(a), -1);
        }
    }

    /** By use with 2: 1 2, 1 a hit, 3 (2 goes), 2 (1 goes), 1 (3 goes), 1 a hit. */
    private static TwinOrders seven() {
        return Make.asked(1, 2, 1, 3, 2, 1, 1);
    }

    /** Requests n by n, from 0 on, 100 in all. */
    private static TwinOrders round(int n) {
        TwinOrders x = new TwinOrders();
        for (int i = 0; i < 100; i++) {
            x.get(i % n);
        }
        return x;
    }

    private static TwinOrders chances(int seed) {
        TwinOrders x = Make.store(5000);
        x.chance(seed, 60);
        x.chance(seed + 1, 60);
        return x;
    }

    private static void onPaper(Sentences s) {
        s.of(40, "GONE THROUGH ANEW are REQUESTS, the eldest first", due -> {
            TwinOrders x = Make.asked(5, 6, 7);
            due.row("the latest are left", k -> x.replayed(0, 2, k), 6, 7);
        })
            .broken("void read(Requests requests) {\n            size = requests.size;\n"
                + "            System.arraycopy(requests.keys, 0, keys, 0, MOST_REQUESTS);",
                "void read(Requests requests) {\n            size = requests.size;\n"
                + "            for (int i = 0; i < size; i++) {\n"
                + "                keys[i] = requests.keys[size - 1 - i];\n            }");
        s.of(39, "on paper: an empty store", due -> {
            TwinOrders there = Make.store(40, 1, 1);
            there.get(1);
            due.is("1 is there, but not on paper", there.replay(0, 60, 0), 1);
            due.is("nothing is done", there.count(5), 2);
            for (int seed = 0; seed < 6; seed++) {
                TwinOrders x = chances(seed);
                for (int way = 0; way <= 5; way++) {
                    for (int what = 0; what <= 2; what++) {
                        due.is("empty each time", x.replay(way, 9, what), chances(seed).replay(way, 9, what));
                    }
                }
            }
        }).broken("young.size = 0;", "")
            .broken("old.size = 0;", "")
            .broken("balance = 0;\n            wentByTurns = 0;", "wentByTurns = 0;")
            .broken("balance = 0;\n            wentByTurns = 0;", "balance = 0;")
            .broken("Arrays.fill(happened, 0);", "")
            .broken("void empty(int newAging) {\n            size = 0;", "void empty(int newAging) {");
        s.of(39, "with CAP c (0 .. 60)", due -> {
            TwinOrders x = round(61);
            for (int way = 0; way <= 5; way++) {
                due.is("c 0", x.replay(way, 0, 2), 0);
                due.is("c 60", x.replay(way, 60, 2), 60);
                due.is("c -1", x.replay(way, -1, 2), -1);
                due.is("c 61", x.replay(way, 61, 2), -1);
            }
        }).broken("MOST_PAPER_CAP = 60", "MOST_PAPER_CAP = 59")
            .broken("MOST_PAPER_CAP = 60", "MOST_PAPER_CAP = 61")
            .broken("within(cap, 0, MOST_PAPER_CAP)", "within(cap, 1, MOST_PAPER_CAP)")
            .broken("within(cap, 0, MOST_PAPER_CAP)", "within(cap, -1, MOST_PAPER_CAP)");
        s.of(39, "AGING 999, no LISTENERS", due -> {
            TwinOrders x = new TwinOrders();
            x.aging(1);
            x.listen(-1, 1, 0, 1, 1, 1);
            Make.getAll(x, 1, 1, 1, 8, 9);
            int heard = x.listener(0, 1);
            due.row("by COUNT 1 stays, halved by none", k -> x.replayed(1, 2, k), 1, 9);
            due.is("three are put, no more", x.replay(1, 60, 2), 3);
            due.is("none hears it", x.listener(0, 1), heard);
        }).broken("entries.empty(MOST_AGING);", "entries.empty(1);");
    }

    private static void hits(Sentences s) {
        s.of(39, "each a PUT of WEIGHT 1 by a WAY", due -> {
            TwinOrders x = Make.store(40, 1, 30, 2, 9);
            x.put(3, 0, 99, 0);
            x.get(4);
            due.is("all four fit in 4", x.replay(0, 4, 2), 4);
            due.is("one goes for 3", x.replay(0, 3, 1), 1);
            due.is("one fits in 1", x.replay(0, 1, 2), 1);
            x.way(3);
            due.row("by the WAY told, not that of now", k -> x.replayed(0, 3, k), 2, 3, 4);
        }).broken("store.bring(keys[i], 0, 1, NONE);", "store.bring(keys[i], 0, 2, NONE);");
        s.of(39, "a HIT is a KEY that is there ahead of it.", due -> {
            due.is("the first is none", Make.asked(1).replay(0, 5, 0), 0);
            due.is("the second is", Make.asked(1, 1).replay(0, 5, 0), 1);
            due.is("gone, none", Make.asked(1, 2, 1).replay(0, 1, 0), 0);
            due.is("by CAP 0 none", Make.asked(1, 1, 1).replay(0, 0, 0), 0);
            due.is("nothing requested", new TwinOrders().replay(0, 5, 0), 0);
        }).broken("hits = 0;\n            for", "hits = 1;\n            for")
            .broken("hits++;", "hits += 2;");
    }

    private static void byWhatComes(Sentences s) {
        s.of(39, "WAY 5 is by what comes: EVICTED is the ENTRY whose next REQUEST (behind this one) is farthest", due -> {
            TwinOrders x = Make.asked(1, 2, 3, 4, 1, 3, 2);
            due.is("for 4 with 3: 1 and 3 come sooner, 2 goes", x.replay(5, 3, 0), 2);
            due.is("2 comes back", x.replay(5, 3, 1), 2);
            TwinOrders y = Make.asked(1, 2, 3, 2, 1, 3, 1);
            due.is("for 3 with 2: 2 comes next, 1 goes, though it comes more often; for 1: 2 goes", y.replay(5, 2, 0), 3);
        }).broken("next > far ||", "next < far || found == NONE ||")
            .broken("return at >= 0 && at < size ? nexts[at] : size;",
                "return at >= 0 && at < size ? size - at : size;");
        s.of(40, "of those without one, or of like ones, the least KEY", due -> {
            TwinOrders x = Make.asked(4, 9, 5, 7);
            due.row("none comes again: 4, then 5", k -> x.replayed(5, 2, k), 9, 7);
            TwinOrders y = Make.asked(9, 4, 5, 7);
            due.row("none comes again: 4, then 5", k -> y.replayed(5, 2, k), 9, 7);
        }).broken("all.keys[i] < all.keyOf(found)", "all.keys[i] > all.keyOf(found)")
            .broken("(next == far && all.keys[i] < all.keyOf(found))", "false")
            .broken("(next == far && all.keys[i] < all.keyOf(found))", "next == far");
        s.of(40, "(no next one is the farthest)", due -> {
            TwinOrders x = Make.asked(9, 5, 4, 5, 4);
            due.row("9 goes for 4", k -> x.replayed(5, 2, k), 5, 4);
            TwinOrders last = Make.asked(3, 8, 6, 3);
            due.row("8 goes for 6, 3 comes last of all", k -> last.replayed(5, 2, k), 6, 3);
        }).broken("int next = nextRequest(i);", "int next = nextRequest(i) == size ? 0 : nextRequest(i);")
            .broken("int next = nextRequest(i);", "int next = nextRequest(i) == size ? size - 1 : nextRequest(i);");
    }

    private static void profile(Sentences s) {
        s.of(35, "How many REQUESTS have a distance() of d", due -> {
            TwinOrders x = Make.asked(1, 1, 2, 3, 2, 2, 1, 4, 3);
            due.first("profile(d)", x::profile, 2, 1, 1, 1, 0, 0);
            due.is("38 of them", round(62).profile(61), 38);
            TwinOrders same = round(1);
            due.is("all but the first", same.profile(0), 99);
        }).broken("if (anew.othersSince(k) == d) {", "if (anew.othersSince(k) >= d) {")
            .broken("for (int k = 0; k < anew.size; k++) {", "for (int k = 0; k < anew.size - 1; k++) {");
        s.of(35, "d NONE: how many have none.", due -> {
            due.is("four KEYS", Make.asked(1, 1, 2, 3, 2, 2, 1, 4, 3).profile(-1), 4);
            due.is("nothing requested", new TwinOrders().profile(-1), 0);
            due.is("100", round(100).profile(-1), 100);
        }).broken("if (d < NONE) {", "if (d <= NONE) {")
            .broken("for (int k = 0; k < anew.size; k++) {", "for (int k = 1; k < anew.size; k++) {");
        s.of(35, "0 for others.", due -> {
            TwinOrders x = Make.asked(1, 1, 2, 3, 2, 2, 1, 4, 3);
            for (int d : new int[] {-2, 4, 99, 100, Integer.MIN_VALUE, Integer.MAX_VALUE}) {
                due.is("profile(" + d + ")", x.profile(d), 0);
            }
        }).broken("if (d < NONE) {\n            return 0;", "if (d < NONE || d > 99) {\n            return NONE;");
    }

    private static void agree(Sentences s) {
        s.of(36, "GONE THROUGH ANEW with CAP c by each of WAYS 0 .. 4: KEYS that are there at the end by all of them: how many (k NONE), "
            + "the k-th, rising.", due -> {
                TwinOrders x = Make.asked(1, 1, 1, 8, 9);
                due.is("by use 8 9, by count 1 9", x.agree(2, -1), 1);
                due.row("agree(2, k)", k -> x.agree(2, k), 9);
                TwinOrders byCount = Make.asked(5, 5, 1, 2, 1);
                due.row("by WAY 1 5 and 1 are left, by all others 1 and 2", k -> byCount.agree(2, k), 1);
                TwinOrders inTurns = Make.asked(3, 3, 4, 1, 2, 1, 4, 3);
                due.row("by WAY 2 1 and 3 are left, by all others 3 and 4", k -> inTurns.agree(2, k), 3);
                TwinOrders byBalance = Make.asked(3, 4, 2, 4, 3);
                due.row("by WAY 4 2 and 3 are left, by all others 3 and 4", k -> byBalance.agree(2, k), 3);
                TwinOrders z = Make.asked(30, 20, 10, 40);
                due.row("rising", k -> z.agree(60, k), 10, 20, 30, 40);
                due.is("all of 60", round(60).agree(60, -1), 60);
                due.is("the last of 60", round(60).agree(60, 59), 59);
                due.is("CAP 0", z.agree(0, -1), 0);
            })
            .broken("for (int way = WAY_COUNT; way <= WAY_BALANCE; way++) {\n                run(way, cap);\n"
                + "                retain",
                "for (int way = WAY_COUNT; way < WAY_BALANCE; way++) {\n                run(way, cap);\n"
                + "                retain")
            .broken("for (int way = WAY_COUNT; way <= WAY_BALANCE; way++) {\n                run(way, cap);\n"
                + "                retain",
                "for (int way = WAY_TURNS; way <= WAY_BALANCE; way++) {\n                run(way, cap);\n"
                + "                retain")
            .broken("for (int way = WAY_COUNT; way <= WAY_BALANCE; way++) {\n                run(way, cap);\n"
                + "                retain",
                "for (int way = WAY_COUNT; way <= WAY_BALANCE; way++) {\n"
                + "                run(way == WAY_TURNS ? WAY_USE : way, cap);\n                retain")
            .broken("at > 0 && shared[at - 1] > key; at--", "at > 0 && shared[at - 1] < key; at--");
        s.of(36, "NONE when there is none such", due -> {
            TwinOrders x = Make.asked(30, 20, 10, 40);
            none(due, "agree(60, k)", k -> x.agree(60, k), 4, 5, 59, 60);
            none(due, "agree(0, k)", k -> x.agree(0, k), 0);
            due.is("nothing requested", new TwinOrders().agree(5, 0), -1);
        }).broken("within(k, 0, anew.sharedSize - 1)", "within(k, 0, anew.sharedSize)")
            .broken("if (k == NONE) {\n            return anew.sharedSize;",
                "if (k < 0) {\n            return anew.sharedSize;");
        s.of(36, "c can't be.", due -> {
            TwinOrders x = Make.asked(30, 20, 10, 40);
            none(due, "agree(c, -1)", c -> x.agree(c, -1), -1, 61);
            none(due, "agree(c, 0)", c -> x.agree(c, 0), -1, 61);
        }).broken("if (!isPaperCap(c)) {", "if (c < 0) {")
            .broken("if (!isPaperCap(c)) {", "if (c > MOST_PAPER_CAP) {");
    }

    private static void regret(Sentences s) {
        s.of(37, "GONE THROUGH ANEW by a WAY (0 .. 5) with CAP c: how many times one is EVICTED whose KEY is "
            + "requested again behind that (what 0)", due -> {
            TwinOrders x = seven();
            due.is("2 and 1 again, 3 never", x.regret(0, 2, 0), 2);
            due.is("by what comes", x.regret(5, 2, 0), 1);
            due.is("none is EVICTED", x.regret(0, 3, 0), 0);
            due.is("CAP 0: none is EVICTED", x.regret(0, 0, 0), 0);
            due.is("each time", Make.asked(1, 2, 1, 2, 1).regret(0, 1, 0), 3);
        }).broken("gone[i] != NONE && nextOf(gone[i], i) < size", "gone[i] != NONE")
            .broken("gone[i] != NONE && nextOf(gone[i], i) < size", "gone[i] != NONE && nextOf(gone[i], i + 1) < size");
        s.of(37, "the least number of REQUESTS from such one (that by which it goes) to that next one of its KEY (1: "
            + "1 is the very next REQUEST", due -> {
            due.is("the very next", seven().regret(0, 2, 1), 1);
            due.is("by what comes", seven().regret(5, 2, 1), 2);
            due.is("1 goes by 4, two behind", Make.asked(1, 2, 3, 4, 5, 1).regret(0, 3, 1), 2);
            due.is("the least comes late", Make.asked(1, 2, 3, 4, 3, 1, 5, 6, 1, 5).regret(0, 2, 1), 1);
            due.is("the least comes first", Make.asked(1, 2, 1, 3, 4, 5, 6, 2).regret(0, 1, 1), 1);
            TwinOrders far = new TwinOrders();
            far.get(0);
            for (int key = 1; key <= 98; key++) {
                far.get(key);
            }
            far.get(0);
            due.is("from the second to the last", far.regret(0, 1, 1), 98);
        }).broken("next - i < nearest", "next - i > nearest")
            .broken("nearest = next - i;", "nearest = next - i - 1;");
        s.of(37, "NONE without).", due -> {
            due.is("none is EVICTED", seven().regret(0, 3, 1), -1);
            due.is("none comes again", Make.asked(1, 2, 3).regret(0, 1, 1), -1);
            due.is("CAP 0", seven().regret(0, 0, 1), -1);
            due.is("nothing requested", new TwinOrders().regret(0, 5, 1), -1);
        }).broken("int nearest = NONE;", "int nearest = 0;");
        s.of(37, "NONE for others.", due -> {
            TwinOrders x = seven();
            none(due, "way", way -> x.regret(way, 2, 0), -1, 6);
            none(due, "c", c -> x.regret(0, c, 0), -1, 61);
            none(due, "what", what -> x.regret(0, 2, what), -1, 2);
            due.is("WAY 5, CAP 60", x.regret(5, 60, 0), 0);
        })
            .broken("if (!within(what, 0, 1) || !goThrough(way, c)) {\n            return NONE;\n        }\n"
                + "        return what == 0 ? anew.regrets",
                "if (!within(what, -1, 2) || !goThrough(way, c)) {\n            return NONE;\n        }\n"
                + "        return what == 0 ? anew.regrets")
            .broken("within(way, WAY_USE, WAY_FUTURE)", "within(way, WAY_USE, WAY_FUTURE + 1)")
            .broken("within(way, WAY_USE, WAY_FUTURE)", "within(way, WAY_USE - 1, WAY_FUTURE)")
            .broken("within(way, WAY_USE, WAY_FUTURE)", "within(way, WAY_USE, WAY_BALANCE)");
    }

    private static void distance(Sentences s) {
        s.of(38, "How many other KEYS were requested since the KEY of the k-th REQUEST was requested ahead of that.", due -> {
            TwinOrders x = Make.asked(1, 1, 2, 3, 2, 2, 1, 4, 3);
            due.row("distance(k)", x::distance, -1, 0, -1, -1, 1, 0, 2, -1, 3);
            due.is("each KEY once", Make.asked(5, 7, 7, 8, 7, 8, 5).distance(6), 2);
            due.is("the latest time ahead", Make.asked(5, 1, 2, 5, 3, 5).distance(5), 1);
            TwinOrders far = round(99);
            due.is("98 others", far.distance(99), 98);
        }).broken("if (nexts[i] > k) {", "if (nexts[i] >= 0) {")
            .broken("int from = previousOf(k);", "int from = Math.min(previousOf(k), 1);");
        s.of(38, "NONE when it was not", due -> {
            TwinOrders x = Make.asked(1, 2, 1);
            due.is("the first", x.distance(0), -1);
            due.is("another first", x.distance(1), -1);
            TwinOrders late = new TwinOrders();
            late.get(777);
            for (int i = 0; i < 99; i++) {
                late.get(i % 30);
            }
            late.get(777);
            due.is("requested ahead, but not of the latest 100", late.distance(99), -1);
        })
            .broken("if (from == NONE) {\n                return NONE;",
                "if (from == NONE) {\n                return 0;");
        s.of(38, "or there is none such.", due -> {
            TwinOrders x = Make.asked(1, 1, 1);
            none(due, "distance", x::distance, -1, 3, 99, 100);
            none(due, "distance, KEY 0 alone", Make.asked(0, 0)::distance, -1, 2, 3);
            none(due, "distance, 100 REQUESTS", round(5)::distance, -1, 100, 101);
            due.is("nothing requested", new TwinOrders().distance(0), -1);
        })
            .broken("int othersSince(int k) {\n            if (k < 0 || k >= size) {\n                return NONE;",
                "int othersSince(int k) {\n            if (k < 0 || k >= size) {\n                return 0;")
            .broken("int othersSince(int k) {\n            if (k < 0 || k >= size) {",
                "int othersSince(int k) {\n            if (k < 0 || k > size) {");
    }

    private static void replay(Sentences s) {
        s.of(39, "GONE THROUGH ANEW with CAP c by a WAY (0 .. 5): 0 HITS, 1 how many are EVICTED, 2 how many are "
            + "there at the end.", due -> {
            int[][] at = {{2, 3, 2}, {3, 2, 2}, {3, 2, 2}, {2, 3, 2}, {2, 3, 2}, {3, 2, 2}};
            for (int way = 0; way <= 5; way++) {
                int by = way;
                TwinOrders x = seven();
                due.row("WAY " + way, what -> x.replay(by, 2, what), at[way]);
                due.row("WAY " + way + ", CAP 0", what -> x.replay(by, 0, what), 0, 0, 0);
                due.row("WAY " + way + ", CAP 1", what -> x.replay(by, 1, what), 1, 5, 1);
                due.row("WAY " + way + ", CAP 60", what -> x.replay(by, 60, what), 4, 0, 3);
            }
        }).broken("case 0: return anew.hits;", "case 0: return anew.hits + 1;")
            .broken("case 1: return anew.store.happened[EVICTED];", "case 1: return anew.store.happened[REJECTED];")
            .broken("default: return anew.store.entries.size;", "default: return anew.store.cap;")
            .broken("} else if (way == WAY_FUTURE && store.isTight(1)) {", "} else if (way == WAY_FUTURE) {");
        s.of(39, "NONE for others.", due -> {
            TwinOrders x = seven();
            none(due, "way", way -> x.replay(way, 2, 0), -1, 6);
            none(due, "c", c -> x.replay(0, c, 0), -1, 61);
            none(due, "what", what -> x.replay(0, 2, what), -1, 3);
        }).broken("within(way, WAY_USE, WAY_FUTURE)", "within(way, WAY_USE, WAY_FUTURE + 1)")
            .broken("within(way, WAY_USE, WAY_FUTURE)", "within(way, WAY_USE - 1, WAY_FUTURE)")
            .broken("if (!within(what, 0, 2) || !goThrough(way, c)) {",
                "if (!within(what, 0, 3) || !goThrough(way, c)) {")
            .broken("if (!within(what, 0, 2) || !goThrough(way, c)) {",
                "if (!within(what, -1, 2) || !goThrough(way, c)) {");
        s.of(40, "Likewise, the k-th KEY that is there at the end, by ORDER 0.", due -> {
            TwinOrders x = seven();
            due.row("WAY 0, CAP 2", k -> x.replayed(0, 2, k), 2, 1);
            due.row("WAY 1, CAP 3", k -> x.replayed(1, 3, k), 3, 2, 1);
            due.row("WAY 5, CAP 1", k -> x.replayed(5, 1, k), 1);
            TwinOrders many = Make.asked(5, 5, 6, 7, 7);
            due.row("by use, not by count", k -> many.replayed(1, 60, k), 5, 6, 7);
        }).broken("anew.store.entries.keyAt(BY_USE, k)", "anew.store.entries.keyAt(BY_COUNT, k)");
        s.of(40, "NONE when there is none such.", due -> {
            TwinOrders x = seven();
            none(due, "k", k -> x.replayed(0, 2, k), -1, 2, 3, 60);
            none(due, "way", way -> x.replayed(way, 2, 0), -1, 6);
            none(due, "c", c -> x.replayed(0, c, 0), -1, 0, 61);
            due.is("nothing requested", new TwinOrders().replayed(0, 5, 0), -1);
        }).broken("return goThrough(way, c) ? ", "return goThrough(Math.max(0, Math.min(5, way)), c) ? ")
            .broken("return goThrough(way, c) ? ", "return goThrough(way, Math.max(0, Math.min(60, c))) ? ")
            .broken("anew.store.entries.keyAt(BY_USE, k)", "anew.store.entries.keyAt(BY_USE, Math.abs(k))");
    }

    private static void least(Sentences s) {
        s.of(41, "The least CAP (0 .. 60) by which there are so many HITS (0 on) or more, GONE THROUGH ANEW by a WAY.", due -> {
            TwinOrders x = Make.asked(1, 2, 3, 1, 2, 3, 4, 4);
            due.row("by use", hits -> x.least(0, hits), 0, 1, 3, 3, 3);
            due.row("by what comes", hits -> x.least(5, hits), 0, 1, 2, 2, 3);
            due.is("60", round(60).least(0, 40), 60);
            due.is("nothing requested, 0 HITS", new TwinOrders().least(0, 0), 0);
            for (int way = 0; way <= 5; way++) {
                due.is("WAY " + way, seven().least(way, 4), 3);
            }
        }).broken("if (hits >= wanted) {", "if (hits > wanted) {")
            .broken("if (hits >= wanted) {", "if (hits == wanted) {")
            .broken("for (int cap = 0; cap <= MOST_PAPER_CAP; cap++) {",
                "for (int cap = 1; cap <= MOST_PAPER_CAP; cap++) {")
            .broken("for (int cap = 0; cap <= MOST_PAPER_CAP; cap++) {",
                "for (int cap = 0; cap < MOST_PAPER_CAP; cap++) {");
        s.of(41, "NONE when there is none such", due -> {
            TwinOrders x = Make.asked(1, 2, 3, 1, 2, 3, 4, 4);
            none(due, "HITS", hits -> x.least(0, hits), -1, 5, 99, 100);
            due.is("61 KEYS: no CAP does by use", round(61).least(0, 1), -1);
            due.is("by what comes", round(61).least(5, 39), 40);
            due.is("nothing requested", new TwinOrders().least(0, 1), -1);
        }).broken("!isPaperWay(way) || hits < 0", "!isPaperWay(way)")
            .broken("!isPaperWay(way) || hits < 0", "!isPaperWay(way) || hits < -1")
            .broken("if (wanted > size - unlike()) {\n                return NONE;",
                "if (wanted > size - unlike()) {\n                return MOST_PAPER_CAP;")
            .broken("for (int cap = 0; cap <= MOST_PAPER_CAP; cap++) {",
                "for (int cap = 0; cap <= MOST_PAPER_CAP + 1; cap++) {",
                "MOST_ENTRIES = 60",
                "MOST_ENTRIES = 61");
        s.of(41, "or no such WAY.", due -> {
            TwinOrders x = seven();
            none(due, "WAY, 0 HITS", way -> x.least(way, 0), -1, 6);
            none(due, "WAY, 1 HIT", way -> x.least(way, 1), -1, 6);
        }).broken("!isPaperWay(way) || hits < 0", "hits < 0");
    }

    private static void best(Sentences s) {
        s.of(42, "The WAY (0 .. 4) with the most HITS, GONE THROUGH ANEW with CAP c, of like ones the first (what 0)", due -> {
            due.is("WAY 1 and 2 have 3, others 2", seven().best(2, 0), 1);
            due.is("WAY 4 alone", Make.asked(1, 2, 3, 1, 2, 4, 1, 2, 3, 4).best(3, 0), 4);
            due.is("CAP 0: all alike", seven().best(0, 0), 0);
            due.is("CAP 60: all alike", seven().best(60, 0), 0);
            due.is("nothing requested", new TwinOrders().best(5, 0), 0);
            due.is("WAY 5, which has more, is none of them", Make.asked(1, 2, 3, 1, 2, 3).best(2, 0), 0);
        }).broken("if (anew.hits > most) {", "if (anew.hits >= most) {")
            .broken("if (anew.hits > most) {", "if (anew.hits < most || most == NONE) {")
            .broken("for (int way = WAY_USE; way <= WAY_BALANCE; way++) {\n            anew.run",
                "for (int way = WAY_USE; way < WAY_BALANCE; way++) {\n            anew.run")
            .broken("for (int way = WAY_USE; way <= WAY_BALANCE; way++) {\n            anew.run",
                "for (int way = WAY_USE; way <= WAY_FUTURE; way++) {\n            anew.run");
        s.of(42, "how many HITS by WAY 5 more than by that (1).", due -> {
            due.is("two by WAY 5, none by others", Make.asked(1, 2, 3, 1, 2, 3).best(2, 1), 2);
            due.is("as many", seven().best(2, 1), 0);
            due.is("CAP 0", seven().best(0, 1), 0);
        }).broken("return anew.hits - most;", "return anew.hits;")
            .broken("return anew.hits - most;", "return most;");
        s.of(42, "NONE for others.", due -> {
            TwinOrders x = seven();
            none(due, "c, what 0", c -> x.best(c, 0), -1, 61);
            none(due, "c, what 1", c -> x.best(c, 1), -1, 61);
            none(due, "what", what -> x.best(2, what), -1, 2);
        }).broken("!isPaperCap(c) || !within(what, 0, 1)", "!within(what, 0, 1)")
            .broken("!isPaperCap(c) || !within(what, 0, 1)", "!isPaperCap(c) || !within(what, 0, 2)")
            .broken("!isPaperCap(c) || !within(what, 0, 1)", "!isPaperCap(c) || !within(what, -1, 1)");
    }
}
