import java.math.BigInteger;
import java.util.function.IntUnaryOperator;

/** Promises 1 to 14: what is done. */
final class DoingSentences {
    private static final int[] NO_KEYS = {-1, 1000, Integer.MIN_VALUE, Integer.MAX_VALUE};

    private DoingSentences() { }

    static void tell(Sentences s) {
        newObject(s);
        put(s);
        get(s);
        remove(s);
        pin(s);
        resize(s);
        wayAndAging(s);
        tick(s);
        expired(s);
        listen(s);
        turn(s);
        chance(s);
        draws(s);
        keep(s);
        back(s);
    }

    private static void noKeys(Due due, IntUnaryOperator call) {
        for (int key : NO_KEYS) {
            due.is("KEY " + key, call.applyAsInt(key), -2);
        }
    }

    private static void newObject(Sentences s) {
        s.of(1, "Empty, CAP 40, WAY 0.", due -> {
            TwinOrders x = new TwinOrders();
            int[] at = {0, 0, 40, 0, 0, 0, 0, 100, 0, 0, 0, 0, 0, 0, 0, 0, 0, 0, 0, 0};
            due.row("count(what)", x::count, at);
            due.row("order(0, k)", k -> x.order(0, k));
            due.row("order(1, k)", k -> x.order(1, k));
            due.row("ghost(0, k)", k -> x.ghost(0, k));
            due.row("ghost(1, k)", k -> x.ghost(1, k));
            due.row("heard(k, 0)", k -> x.heard(k, 0));
            due.row("request(k)", x::request);
            due.row("listener(n, 0)", n -> x.listener(n, 0));
        }).broken("int cap = 40;", "int cap = 39;")
            .broken("int cap = 40;\n        int way = WAY_USE;", "int cap = 40;\n        int way = WAY_TURNS;")
            .broken("int listenerCount;", "int listenerCount = 1;");
    }

    private static void put(Sentences s) {
        s.of(2, "To PUT, with TILL NONE, or lives (1 .. 999) TICKS from now", due -> {
            TwinOrders x = new TwinOrders();
            x.tick(5);
            due.is("lives 1", x.put(1, 0, 1, 1), 1);
            due.is("TILL", x.entry(1, 4), 6);
            due.is("lives 999", x.put(2, 0, 1, 999), 1);
            due.is("TILL", x.entry(2, 4), 1004);
            due.is("lives 0", x.put(3, 0, 1, 0), 1);
            due.is("TILL NONE", x.entry(3, 4), -1);
        }).broken("MOST_TICKS = 999", "MOST_TICKS = 998")
            .broken("NONE : ticks + lives", "NONE : lives")
            .broken("NONE : ticks + lives", "NONE : ticks + lives - 1")
            .broken("lives == 0 ? NONE", "lives <= 1 ? NONE");
        s.of(2, "1 it CAME, 0 CHANGED, NONE REJECTED", due -> {
            TwinOrders x = new TwinOrders();
            due.is("CAME", x.put(1, 0, 40, 0), 1);
            due.is("CHANGED", x.put(1, 0, 40, 0), 0);
            due.is("REJECTED", x.put(1, 0, 41, 0), -1);
            due.is("REJECTED", x.put(2, 0, 41, 0), -1);
            x.remove(1);
            due.is("CAME again", x.put(1, 0, 1, 0), 1);
        }).broken("return slot == NONE ? 1 : 0;", "return slot == NONE ? 0 : 1;")
            .broken("tell(REJECTED, key, 0, weight);\n                return NONE;",
                "tell(REJECTED, key, 0, weight);\n                return BAD_NUMBERS;");
        s.of(2, "-2 (lives 0: none).", due -> {
            TwinOrders x = new TwinOrders();
            due.is("lives -1", x.put(1, 0, 1, -1), -2);
            due.is("lives 1000", x.put(1, 0, 1, 1000), -2);
            for (int far : Make.FAR) {
                due.is("lives " + far, x.put(1, 0, 1, far), -2);
            }
            due.is("nothing came", x.count(0), 0);
            due.is("lives 0", x.put(1, 0, 1, 0), 1);
            x.tick(999);
            due.is("none", x.count(0), 1);
        }).broken("MOST_TICKS = 999", "MOST_TICKS = 1000")
            .broken("within(lives, 0,", "within(lives, -1,")
            .broken("within(lives, 0,", "within(lives, 1,");
    }

    private static void get(Sentences s) {
        s.of(3, "To GET: 1 it was there, 0 MISSED", due -> {
            TwinOrders x = Make.store(40, 0, 1, 999, 1);
            due.is("get(0)", x.get(0), 1);
            due.is("get(999)", x.get(999), 1);
            due.is("get(1)", x.get(1), 0);
            due.is("get(998)", x.get(998), 0);
            x.remove(0);
            due.is("get(0)", x.get(0), 0);
        })
            .broken("entries.use(slot);\n            got++;\n            return 1;",
                "entries.use(slot);\n            got++;\n            return 2;")
            .broken("tell(MISSED, key, 0, 0);\n                return 0;",
                "tell(MISSED, key, 0, 0);\n                return NONE;");
        s.of(3, "-2.", due -> noKeys(due, key -> new TwinOrders().get(key)))
            .broken("return isKey(key) ? now.callGet(key) : BAD_NUMBERS;", "return now.callGet(key);");
    }

    private static void remove(Sentences s) {
        s.of(4, "An ENTRY is removed (it becomes no GHOST)", due -> {
            TwinOrders x = Make.store(40, 1, 1, 2, 1);
            x.get(2);
            x.pin(2, true);
            x.remove(1);
            x.remove(2);
            due.is("gone", x.count(0), 0);
            due.is("LOAD", x.count(1), 0);
            due.is("WEIGHTS of PINNED ones", x.count(16), 0);
            due.is("no YOUNG GHOST", x.ghost(0, 0), -1);
            due.is("no OLD GHOST", x.ghost(1, 0), -1);
            due.is("REMOVED, not EVICTED", x.heard(0, 0), 4);
        }).broken("lose(REMOVED, slot);", "evict(slot);")
            .broken("lose(REMOVED, slot);", "")
            .broken("if (pinned[slot]) {\n                pinnedLoad -= weights[slot];\n            }", "");
        s.of(4, "its VALUE and 10000", due -> {
            TwinOrders x = new TwinOrders();
            int[][] at = {{-9999, 1}, {0, 10000}, {9999, 19999}};
            for (int[] a : at) {
                x.put(1, a[0], 1, 0);
                due.is("VALUE " + a[0], x.remove(1), a[1]);
            }
        }).broken("return value + VALUE_SHIFT;", "return value;")
            .broken("VALUE_SHIFT = 10000", "VALUE_SHIFT = 9999");
        s.of(4, "-2", due -> noKeys(due, key -> new TwinOrders().remove(key)))
            .broken("return isKey(key) ? now.callRemove(key) : BAD_NUMBERS;", "return now.callRemove(key);");
        s.of(4, "-3 there is none.", due -> {
            TwinOrders x = Make.store(40, 1, 1);
            due.is("remove(0)", x.remove(0), -3);
            due.is("remove(999)", x.remove(999), -3);
            x.remove(1);
            due.is("remove(1) again", x.remove(1), -3);
            due.is("no EVENT", x.logged(4, 0), 1);
        })
            .broken("if (slot == NONE) {\n                return BAD_STANDING;",
                "if (slot == NONE) {\n                return BAD_NUMBERS;");
    }

    private static void pin(Sentences s) {
        s.of(5, "An ENTRY is PINNED, or not: 1 that is another, 0 not", due -> {
            TwinOrders x = Make.store(40, 1, 7);
            due.is("not PINNED, not", x.pin(1, false), 0);
            due.is("PINNED, another", x.pin(1, true), 1);
            due.is("PINNED, not", x.pin(1, true), 0);
            due.is("it is", x.entry(1, 5), 1);
            due.is("its WEIGHT once", x.count(16), 7);
            due.is("not PINNED, another", x.pin(1, false), 1);
            due.is("it is not", x.entry(1, 5), 0);
            due.is("no WEIGHT", x.count(16), 0);
        }).broken("!has(slot) || pinned[slot] == is", "!has(slot)")
            .broken("pinned[slot] = is;", "")
            .broken("pinnedLoad += is ? weights[slot] : -weights[slot];", "pinnedLoad += weights[slot];");
        s.of(5, "-2", due -> {
            noKeys(due, key -> new TwinOrders().pin(key, true));
            noKeys(due, key -> new TwinOrders().pin(key, false));
        }).broken("return isKey(key) ? now.store.fasten(key, is) : BAD_NUMBERS;", "return now.store.fasten(key, is);");
        s.of(5, "-3 there is none.", due -> {
            TwinOrders x = Make.store(40, 1, 1);
            due.is("pin(0, true)", x.pin(0, true), -3);
            due.is("pin(999, false)", x.pin(999, false), -3);
        })
            .broken("return slot == NONE ? BAD_STANDING : asInt(entries.fasten(slot, is));",
                "return asInt(entries.fasten(slot, is));");
    }

    private static void resize(Sentences s) {
        s.of(6, "Another CAP: as long as LOAD is above it ENTRIES are EVICTED: how many", due -> {
            TwinOrders x = Make.store(40, 1, 10, 2, 10, 3, 10, 4, 10);
            due.is("the same CAP", x.resize(40), 0);
            due.is("one less", x.resize(39), 1);
            due.is("as much as LOAD", x.resize(30), 0);
            due.is("two go", x.resize(19), 2);
            due.is("another CAP", x.count(2), 19);
            due.is("one is left", x.count(0), 1);
            due.is("CAP 0", x.resize(0), 1);
            due.is("none is left", x.resize(0), 0);
            due.is("more", x.resize(5000), 0);
        })
            .broken("i < MOST_ENTRIES && entries.load > cap; i++) {\n                evict",
                "i < MOST_ENTRIES && entries.load >= cap; i++) {\n                evict")
            .broken("return happened[EVICTED] - before;", "return happened[EVICTED];")
            .broken("i < MOST_ENTRIES && entries.load > cap; i++) {\n                evict",
                "i < 1 && entries.load > cap; i++) {\n                evict");
        s.of(6, "EVICTED: how many", due -> {
            TwinOrders x = Make.store(40, 1, 10, 2, 10, 3, 10, 4, 10);
            x.listen(2, 9, 1, 6, -10, 0);
            due.is("those of an ACT are aside", x.resize(39), 1);
            due.is("two went", x.count(11), 2);
        })
            .broken("int answer = store.recap(cap);\n            hear();\n            return answer;",
                "int gone = store.happened[EVICTED];\n            int answer = store.recap(cap);\n"
                + "            hear();\n            return answer < 0 ? answer : store.happened[EVICTED] - gone;");
        s.of(6, "-2", due -> {
            TwinOrders x = Make.store(40, 1, 10);
            for (int cap : new int[] {-1, 5001, Integer.MIN_VALUE, Integer.MAX_VALUE}) {
                due.is("resize(" + cap + ")", x.resize(cap), -2);
            }
            due.is("CAP as it was", x.count(2), 40);
        }).broken("if (!isCap(newCap)) {", "if (newCap < 0) {")
            .broken("if (!isCap(newCap)) {", "if (newCap > MOST_CAP) {");
        s.of(6, "-3 PINNED ones are above it.", due -> {
            TwinOrders x = Make.store(40, 1, 10, 2, 10, 3, 10);
            x.pin(2, true);
            x.pin(3, true);
            due.is("one less than PINNED ones", x.resize(19), -3);
            due.is("nothing is done", x.count(0), 3);
            due.is("as much as PINNED ones", x.resize(20), 1);
            due.is("CAP 0", x.resize(0), -3);
        }).broken("if (entries.pinnedLoad > newCap) {", "if (entries.pinnedLoad >= newCap) {")
            .broken("if (entries.pinnedLoad > newCap) {", "if (entries.pinnedLoad > newCap + 1) {");
    }

    private static void wayAndAging(Sentences s) {
        s.of(7, "Another WAY (0 .. 4): what it was", due -> {
            TwinOrders x = new TwinOrders();
            int[] ways = {4, 0, 3, 3, 1, 2};
            int was = 0;
            for (int way : ways) {
                due.is("way(" + way + ")", x.way(way), was);
                due.is("WAY", x.count(3), way);
                was = way;
            }
        }).broken("now.store.way = way;\n        return was;", "now.store.way = way;\n        return way;")
            .broken("within(way, WAY_USE, WAY_BALANCE)", "within(way, WAY_USE, WAY_WEIGHT)")
            .broken("within(way, WAY_USE, WAY_BALANCE)", "within(way, WAY_COUNT, WAY_BALANCE)");
        s.of(7, "-2.", due -> {
            TwinOrders x = new TwinOrders();
            for (int way : new int[] {-1, 5, 6, Integer.MIN_VALUE, Integer.MAX_VALUE}) {
                due.is("way(" + way + ")", x.way(way), -2);
            }
            due.is("WAY as it was", x.count(3), 0);
        }).broken("within(way, WAY_USE, WAY_BALANCE)", "within(way, WAY_USE, WAY_FUTURE)")
            .broken("within(way, WAY_USE, WAY_BALANCE)", "within(way, WAY_USE - 1, WAY_BALANCE)");
        s.of(8, "Another AGING: what it was", due -> {
            TwinOrders x = new TwinOrders();
            due.is("aging(1)", x.aging(1), 100);
            due.is("aging(999)", x.aging(999), 1);
            due.is("aging(999)", x.aging(999), 999);
            due.is("AGING", x.count(7), 999);
        })
            .broken("now.store.entries.aging = n;\n        return was;",
                "now.store.entries.aging = n;\n        return n;")
            .broken("now.store.entries.aging = n;", "");
        s.of(8, "-2.", due -> {
            TwinOrders x = new TwinOrders();
            for (int n : new int[] {0, -1, 1000, Integer.MIN_VALUE, Integer.MAX_VALUE}) {
                due.is("aging(" + n + ")", x.aging(n), -2);
            }
            due.is("AGING as it was", x.count(7), 100);
        }).broken("within(n, 1, MOST_AGING)", "within(n, 0, MOST_AGING)")
            .broken("within(n, 1, MOST_AGING)", "within(n, 1, MOST_AGING + 1)");
    }

    private static void tick(Sentences s) {
        s.of(9, "n TICKS (1 .. 999)", due -> {
            TwinOrders x = new TwinOrders();
            due.is("tick(1)", x.tick(1), 0);
            due.is("TICK", x.count(6), 1);
            due.is("tick(999)", x.tick(999), 0);
            due.is("TICK", x.count(6), 1000);
        }).broken("within(n, 1, MOST_TICKS)", "within(n, 2, MOST_TICKS)")
            .broken("within(n, 1, MOST_TICKS)", "within(n, 1, MOST_TICKS - 1)");
        s.of(9, "one by one", due -> {
            TwinOrders x = new TwinOrders();
            x.put(1, 0, 1, 4);
            x.put(2, 0, 1, 2);
            x.put(3, 0, 1, 3);
            x.tick(9);
            due.first("KEYS, the latest first", k -> x.heard(k, 1), 1, 3, 2);
        }).broken("found == NONE || tills[i] < tills[found]\n", "found == NONE || lasts[i] < lasts[found]\n")
            .broken("found == NONE || tills[i] < tills[found]\n", "found == NONE || tills[i] > tills[found]\n");
        s.of(9, "-2.", due -> {
            TwinOrders x = new TwinOrders();
            for (int n : new int[] {0, -1, 1000, Integer.MIN_VALUE, Integer.MAX_VALUE}) {
                due.is("tick(" + n + ")", x.tick(n), -2);
            }
            due.is("TICK as it was", x.count(6), 0);
        }).broken("within(n, 1, MOST_TICKS)", "within(n, 0, MOST_TICKS)")
            .broken("within(n, 1, MOST_TICKS)", "within(n, 1, MOST_TICKS + 1)");
    }

    private static void expired(Sentences s) {
        s.of(9, "at each ENTRIES with TILL no later than TICK are EXPIRED", due -> {
            TwinOrders x = new TwinOrders();
            x.put(1, 0, 1, 3);
            x.put(2, 0, 1, 4);
            x.put(3, 0, 1, 0);
            due.is("TICK 2", x.tick(2), 0);
            due.is("TICK 3", x.tick(1), 1);
            due.row("order(0, k)", k -> x.order(0, k), 2, 3);
            due.is("TICK 4", x.tick(1), 1);
            due.is("without TILL never", x.tick(999), 0);
            due.is("it is there", x.count(0), 1);
        }).broken("tills[i] <= until", "tills[i] < until")
            .broken("tills[i] <= until", "tills[i] <= until + 1")
            .broken("tills[i] != NONE && tills[i] <= until", "tills[i] <= until");
        s.of(9, "EXPIRED, by ORDER 0", due -> {
            TwinOrders x = new TwinOrders();
            for (int key = 1; key <= 4; key++) {
                x.put(key, 0, 1, 5);
            }
            Make.getAll(x, 1, 3);
            x.tick(5);
            due.first("KEYS, the latest first", k -> x.heard(k, 1), 3, 1, 4, 2);
        })
            .broken("tills[i] == tills[found] && lasts[i] < lasts[found]",
                "tills[i] == tills[found] && lasts[i] > lasts[found]")
            .broken("tills[i] == tills[found] && lasts[i] < lasts[found]", "false");
        s.of(9, "(PINNED ones, too; no GHOSTS)", due -> {
            TwinOrders x = new TwinOrders();
            x.put(1, 0, 5, 1);
            x.put(2, 0, 5, 1);
            x.get(2);
            x.pin(1, true);
            due.is("both", x.tick(1), 2);
            due.is("WEIGHTS of PINNED ones", x.count(16), 0);
            due.is("no YOUNG GHOST", x.ghost(0, 0), -1);
            due.is("no OLD GHOST", x.ghost(1, 0), -1);
        }).broken("tills[i] != NONE && tills[i] <= until", "tills[i] != NONE && !pinned[i] && tills[i] <= until")
            .broken("tell(kind, entries.keys[slot]",
                "if (kind == EXPIRED) {\n                young.add(entries.keys[slot]);\n            }\n"
                + "            tell(kind, entries.keys[slot]");
        s.of(9, "how many in all", due -> {
            TwinOrders x = new TwinOrders();
            for (int key = 1; key <= 4; key++) {
                x.put(key, 0, 1, key);
            }
            due.is("one", x.tick(1), 1);
            due.is("three in two hundred TICKS", x.tick(200), 3);
            due.is("none", x.tick(1), 0);
            for (int key = 0; key < 60; key++) {
                x.put(key % 30, 0, 1, 1 + key % 2);
            }
            due.is("thirty", x.tick(2), 30);
            x.resize(60);
            for (int key = 0; key < 60; key++) {
                x.put(key, 0, 1, 7);
            }
            due.is("all of sixty", x.tick(7), 60);
        }).broken("store.happened[EXPIRED] - before", "store.happened[EXPIRED]")
            .broken("for (int i = 0; i < MOST_ENTRIES; i++) {\n                store.lose",
                "for (int i = 1; i < MOST_ENTRIES; i++) {\n                store.lose")
            .broken("store.lose(EXPIRED, store.entries.soonest(ticks));",
                "if (i < 2) { store.lose(EXPIRED, store.entries.soonest(ticks)); }");
        s.of(9, "(EVENTS are heard behind all TICKS.)", due -> {
            TwinOrders x = new TwinOrders();
            x.listen(3, 1, 0, 2, 1, 0);
            x.put(1, 0, 1, 1);
            x.put(2, 0, 1, 2);
            due.is("two", x.tick(2), 2);
            due.is("as 1 is told 2 is gone", x.count(9), 0);
            due.first("kinds, the latest first", k -> x.heard(k, 0), 5, 5, 3, 3);
        })
            .broken("ticks += n;\n            for (int i = 0; i < MOST_ENTRIES; i++) {\n"
                + "                store.lose(EXPIRED, store.entries.soonest(ticks));\n            }",
                "for (int t = 0; t < n; t++) {\n                ticks++;\n"
                + "                for (int i = 0; i < MOST_ENTRIES; i++) {\n"
                + "                    store.lose(EXPIRED, store.entries.soonest(ticks));\n                }\n"
                + "                hear();\n                store.waiting.open();\n            }");
    }

    private static void listen(Sentences s) {
        s.of(10, "A LISTENER to EVENTS of a kind (NONE: all), ON: its number", due -> {
            TwinOrders x = new TwinOrders();
            for (int kind = -1; kind <= 6; kind++) {
                due.is("kind " + kind, x.listen(kind, 1, 0, 0, 0, 0), kind + 1);
                due.is("ON", x.listener(kind + 1, 0), 1);
            }
            x.get(1);
            due.is("all", x.listener(0, 1), 1);
            due.is("MISSED", x.listener(6, 1), 1);
            due.is("heard by two", x.heard(0, 4), 2);
        }).broken("on = true;", "on = false;")
            .broken("within(kind, NONE, KINDS - 1)", "within(kind, 0, KINDS - 1)")
            .broken("within(kind, NONE, KINDS - 1)", "within(kind, NONE, KINDS - 2)");
        s.of(10, "its number; -2", due -> {
            TwinOrders x = new TwinOrders();
            int[][] bad = {{-2, 0}, {7, 0}, {Integer.MIN_VALUE, 0}, {Integer.MAX_VALUE, 0}, {0, -1}, {0, 7},
                {0, Integer.MIN_VALUE}, {0, Integer.MAX_VALUE}};
            for (int[] b : bad) {
                due.is("kind " + b[0] + ", ACT " + b[1], x.listen(b[0], 1, 0, b[1], 0, 1), -2);
            }
            due.is("none came", x.count(8), 0);
            for (int act = 0; act <= 6; act++) {
                due.is("ACT " + act, x.listen(0, 1, 0, act, 0, 1), act);
            }
        }).broken("within(kind, NONE, KINDS - 1)", "within(kind, NONE, KINDS)")
            .broken("within(kind, NONE, KINDS - 1)", "within(kind, NONE - 1, KINDS - 1)")
            .broken("within(act, 0, ACT_CAP)", "within(act, 0, ACT_CAP + 1)")
            .broken("within(act, 0, ACT_CAP)", "within(act, -1, ACT_CAP)")
            .broken("within(act, 0, ACT_CAP)", "within(act, 0, ACT_UNPIN)")
            .broken("within(act, 0, ACT_CAP)", "within(act, 1, ACT_CAP)");
        s.of(10, "(w 1 .. 99 for ACT 1, else whatever)", due -> {
            TwinOrders x = new TwinOrders();
            due.is("ACT 1, w 0", x.listen(0, 1, 0, 1, 0, 0), -2);
            due.is("ACT 1, w 100", x.listen(0, 1, 0, 1, 0, 100), -2);
            due.is("ACT 1, w -1", x.listen(0, 1, 0, 1, 0, -1), -2);
            due.is("ACT 1, w 1", x.listen(0, 1, 0, 1, 0, 1), 0);
            due.is("ACT 1, w 99", x.listen(0, 1, 0, 1, 0, 99), 1);
            int[] whatever = {0, 100, -1, Integer.MIN_VALUE, Integer.MAX_VALUE, 5000};
            for (int i = 0; i < whatever.length; i++) {
                due.is("ACT " + (i == 0 ? 0 : i + 1), x.listen(0, 1, 0, i == 0 ? 0 : i + 1, 0, whatever[i]), 2 + i);
            }
        }).broken("(act == ACT_PUT && !isWeight(w))", "!isWeight(w)")
            .broken("(act == ACT_PUT && !isWeight(w))", "false")
            .broken("(act == ACT_PUT && !isWeight(w))", "(act == ACT_PUT && !within(w, 0, 99))")
            .broken("(act == ACT_PUT && !isWeight(w))", "(act == ACT_PUT && !within(w, 1, 100))");
        s.of(10, "-3 there are 8.", due -> {
            TwinOrders x = new TwinOrders();
            for (int n = 0; n < 7; n++) {
                x.listen(0, 1, 0, 0, 0, 0);
            }
            x.turn(0, false);
            due.is("the eighth", x.listen(0, 1, 0, 0, 0, 0), 7);
            due.is("the ninth, though one is not ON", x.listen(0, 1, 0, 0, 0, 0), -3);
            due.is("8", x.count(8), 8);
        }).broken("if (number >= MOST_LISTENERS) {", "if (number > MOST_LISTENERS) {")
            .broken("if (number >= MOST_LISTENERS) {", "if (number >= MOST_LISTENERS - 1) {");
    }

    private static void turn(Sentences s) {
        s.of(11, "A LISTENER is ON, or not: 1 that is another, 0 not", due -> {
            TwinOrders x = new TwinOrders();
            x.listen(5, 1, 0, 0, 0, 0);
            due.is("ON, not", x.turn(0, true), 0);
            due.is("not ON, another", x.turn(0, false), 1);
            due.is("not ON, not", x.turn(0, false), 0);
            x.get(1);
            due.is("hears nothing", x.listener(0, 1), 0);
            due.is("ON, another", x.turn(0, true), 1);
            x.get(1);
            due.is("hears", x.listener(0, 1), 1);
        }).broken("boolean other = one.on != on;", "boolean other = on;")
            .broken("one.on = on;", "");
        s.of(11, "-2 no such one.", due -> {
            TwinOrders x = new TwinOrders();
            due.is("turn(0, ..), none there", x.turn(0, false), -2);
            x.listen(5, 1, 0, 0, 0, 0);
            x.listen(5, 1, 0, 0, 0, 0);
            for (int n : new int[] {-1, 2, 7, 8, Integer.MIN_VALUE, Integer.MAX_VALUE}) {
                due.is("turn(" + n + ", false)", x.turn(n, false), -2);
            }
            due.is("turn(1, false)", x.turn(1, false), 1);
        })
            .broken("number >= 0 && number < listenerCount",
                "number >= 0 && number <= listenerCount && number < MOST_LISTENERS")
            .broken("number >= 0 && number < listenerCount", "number > 0 && number < listenerCount || number == -1");
    }

    /** A draw as the document tells it, in whole numbers without bounds. */
    private static int[] draws(int seed, int... of) {
        BigInteger x = BigInteger.valueOf(seed);
        int[] drawn = new int[of.length];
        for (int i = 0; i < of.length; i++) {
            x = x.multiply(BigInteger.valueOf(1103515245)).add(BigInteger.valueOf(12345)).mod(BigInteger.TWO.pow(31));
            drawn[i] = x.divide(BigInteger.valueOf(64)).mod(BigInteger.valueOf(of[i])).intValue();
        }
        return drawn;
    }

    /** A seed whose first draw of 8 is as told, and whose key is even or not. */
    private static int seedFor(int choice, boolean even) {
        int seed = 0;
        while (draws(seed, 8, 40)[0] != choice || (draws(seed, 8, 40)[1] % 2 == 0) != even) {
            seed++;
        }
        return seed;
    }

    private static void chance(Sentences s) {
        s.of(12, "n times (0 .. 60) by the seed (0 and on)", due -> {
            TwinOrders x = new TwinOrders();
            String before = Make.all(x);
            due.is("none", x.chance(0, 0), 0);
            due.isTrue("nothing is done", before.equals(Make.all(x)));
            due.isTrue("seed 0, 60 times", x.chance(0, 60) >= 0);
            due.isTrue("the greatest seed", new TwinOrders().chance(Integer.MAX_VALUE, 1) >= 0);
            int[] of = new int[180];
            for (int i = 0; i < 60; i++) {
                of[3 * i] = 8;
                of[3 * i + 1] = 40;
                of[3 * i + 2] = 9;
            }
            int[] drawn = draws(0, of);
            int asked = 0;
            for (int i = 0; i < 60; i++) {
                asked += drawn[3 * i] < 7 ? 1 : 0;
            }
            due.is("as many calls of get and put", x.count(15), asked);
        }).broken("MOST_CHANCES = 60", "MOST_CHANCES = 59")
            .broken("if (seed < 0", "if (seed <= 0")
            .broken("for (int i = 0; i < n; i++) {\n            x = nextDraw(x);",
                "for (int i = 1; i < n; i++) {\n            x = nextDraw(x);")
            .broken("within(n, 0, MOST_CHANCES)", "within(n, 1, MOST_CHANCES)");
        s.of(12, "there were; -2.", due -> {
            TwinOrders x = new TwinOrders();
            due.is("n 61", x.chance(0, 61), -2);
            due.is("n -1", x.chance(0, -1), -2);
            due.is("seed -1", x.chance(-1, 0), -2);
            due.is("the least seed", x.chance(Integer.MIN_VALUE, 1), -2);
            due.is("the least n", x.chance(0, Integer.MIN_VALUE), -2);
            due.is("the greatest n", x.chance(0, Integer.MAX_VALUE), -2);
            due.is("no REQUEST", x.count(15), 0);
        }).broken("MOST_CHANCES = 60", "MOST_CHANCES = 61")
            .broken("if (seed < 0", "if (seed < -1")
            .broken("if (seed < 0 || ", "if (")
            .broken("within(n, 0, MOST_CHANCES)", "within(n, -1, MOST_CHANCES)");
        s.of(12, "0 .. 3 a call of get, 4 .. 6 of put (VALUE the KEY, lives 0)", due -> {
            for (int choice = 0; choice <= 6; choice++) {
                int seed = seedFor(choice, true);
                int[] drawn = draws(seed, 8, 40, 9);
                TwinOrders x = new TwinOrders();
                x.tick(5);
                x.chance(seed, 1);
                due.is("a REQUEST", x.request(0), drawn[1]);
                due.is("MISSED, or CAME", x.heard(0, 0), choice <= 3 ? 5 : 0);
                due.is("VALUE", x.entry(drawn[1], 0), choice <= 3 ? -10000 : drawn[1]);
                due.is("WEIGHT", x.entry(drawn[1], 1), choice <= 3 ? -10000 : drawn[2] + 1);
                due.is("TILL", x.entry(drawn[1], 4), choice <= 3 ? -10000 : -1);
            }
        }).broken("if (choice < 4) {", "if (choice < 3) {")
            .broken("if (choice < 4) {", "if (choice < 5) {")
            .broken("else if (choice < 7) {", "else if (choice < 6) {")
            .broken("now.callPut(key, key, weight, 0)", "now.callPut(key, 0, weight, 0)")
            .broken("now.callPut(key, key, weight, 0)", "now.callPut(key, key, weight, 1)")
            .broken("now.callPut(key, key, weight, 0)", "now.callPut(key, key, weight, -1)")
            .broken("hits += now.callGet(key);", "hits += now.store.fetch(key);");
        s.of(12, "7: pin (true, if the second DRAW is even, else false)", due -> {
            int even = seedFor(7, true);
            int odd = seedFor(7, false);
            TwinOrders x = Make.many(40);
            x.chance(even, 1);
            due.is("even: PINNED", x.entry(draws(even, 8, 40)[1], 5), 1);
            due.is("no REQUEST", x.count(15), 40);
            Make.pinAll(x, 0, 39);
            x.chance(odd, 1);
            due.is("odd: not", x.entry(draws(odd, 8, 40)[1], 5), 0);
            due.is("one alone", x.count(16), 39);
        }).broken("now.store.fasten(key, key % 2 == 0);", "now.store.fasten(key, key % 2 != 0);")
            .broken("now.store.fasten(key, key % 2 == 0);", "now.store.fasten(key, true);")
            .broken("else if (choice < 7) {", "else if (choice < 8) {");
        s.of(12, "how many HITS (get that was there) there were", due -> {
            TwinOrders x = Make.many(40);
            int hits = x.chance(3, 60);
            due.is("all that were got", x.count(9), hits);
            due.isTrue("more than one", hits > 1);
            TwinOrders y = Make.many(40);
            y.listen(1, 1, 0, 2, 0, 0);
            due.is("not those of ACTS", y.chance(3, 60), hits);
            due.isTrue("which were there, too", y.count(9) > hits);
            due.is("none there", new TwinOrders().chance(seedFor(0, true), 1), 0);
        }).broken("hits += now.callGet(key);", "hits = now.callGet(key);")
            .broken("hits += now.callGet(key);", "now.callGet(key);\n                hits++;")
            .broken("return hits;\n    }\n\n    public int keep",
                "return now.store.got;\n    }\n\n    public int keep");
    }

    private static void draws(Sentences s) {
        s.of(12, "DRAWS of 8, of 40 (KEY), of 9 (WEIGHT is that and 1)", due -> {
            boolean[] keys = new boolean[40];
            boolean[] weights = new boolean[10];
            for (int seed = 0; seed < 400; seed++) {
                int[] drawn = draws(seed, 8, 40, 9, 8, 40, 9);
                TwinOrders x = new TwinOrders();
                x.chance(seed, 2);
                // All three are drawn each time, so that the second time begins with the fourth DRAW.
                if (drawn[0] >= 4 && drawn[0] <= 6 && drawn[1] != drawn[4]) {
                    due.is("KEY", x.request(0), drawn[1]);
                    due.is("WEIGHT", x.entry(drawn[1], 1), drawn[2] + 1);
                    keys[drawn[1]] = true;
                    weights[drawn[2] + 1] = true;
                }
                if (drawn[0] <= 3 && drawn[3] <= 6) {
                    due.is("the second KEY", x.request(1), drawn[4]);
                }
            }
            due.isTrue("KEYS 0 and 39", keys[0] && keys[39]);
            due.isTrue("WEIGHTS 1 and 9", weights[1] && weights[9]);
        }).broken("drawn(x, 40)", "drawn(x, 39)")
            .broken("drawn(x, 9) + 1", "drawn(x, 9)")
            .broken("drawn(x, 9) + 1", "drawn(x, 10)")
            .broken("drawn(x, 8)", "drawn(x, 7)")
            .broken("x = nextDraw(x);\n            int weight",
                "x = choice < 4 ? x : nextDraw(x);\n            int weight");
        s.of(12, "A DRAW of m: x (the seed) becomes (1103515245 x + 12345) mod 2 to the 31; floor(x / 64) mod m.", due -> {
            int[] seeds = {0, 1, 2, 63, 64, 1 << 30, Integer.MAX_VALUE - 1, Integer.MAX_VALUE, 1945678901, 123456789};
            for (int seed : seeds) {
                int[] drawn = draws(seed, 8, 40, 9);
                TwinOrders x = Make.many(40);
                x.chance(seed, 1);
                if (drawn[0] <= 6) {
                    due.is("seed " + seed + ", KEY", x.request(40), drawn[1]);
                    due.is("seed " + seed + ", got or not", x.count(9), drawn[0] <= 3 ? 1 : 0);
                } else {
                    due.is("seed " + seed + ", pin", x.count(15), 40);
                }
            }
        }).broken("0x7fffffffL", "0x3fffffffL")
            .broken("(x / 64) % m", "(x / 32) % m")
            .broken("+ 12345L", "+ 12346L")
            .broken("1103515245L", "1103515244L");
    }

    private static void keep(Sentences s) {
        s.of(13, "IMAGE k (0, 1) of all is kept", due -> {
            TwinOrders x = Make.store(40, 1, 1);
            x.keep(0);
            x.put(2, 0, 1, 0);
            x.keep(1);
            x.put(3, 0, 1, 0);
            x.back(0);
            due.row("IMAGE 0", k -> x.order(0, k), 1);
            x.back(1);
            due.row("IMAGE 1", k -> x.order(0, k), 1, 2);
            x.put(4, 0, 1, 0);
            x.keep(0);
            x.back(1);
            x.back(0);
            due.row("IMAGE 0, kept anew", k -> x.order(0, k), 1, 2, 4);
        }).broken("images[k] = image;", "images[0] = image;\n            images[1] = image;")
            .broken("image.copyFrom(now);\n", "")
            .broken("IMAGES = 2", "IMAGES = 1");
        Sentences.Sentence whole = s.of(13, "(with LISTENERS, THE LOG, REQUESTS, what count() tells", due -> {
            TwinOrders x = Make.rich();
            String before = Make.all(x);
            x.keep(1);
            x.resize(0);
            x.resize(77);
            x.aging(3);
            x.way(1);
            x.turn(0, false);
            x.listen(-1, 1, 0, 3, 0, 0);
            x.chance(5, 60);
            x.tick(700);
            x.back(1);
            due.isTrue("all is as it was", before.equals(Make.all(x)));
            fromNothing(due, before);
        });
        String[] parts = {"log.copyFrom(other.log);", "requests.copyFrom(other.requests);", "listeners[i].copyFrom(other.listeners[i]);",
            "listenerCount = other.listenerCount;", "ticks = other.ticks;", "lost = other.lost;", "deepest = other.deepest;",
            "entries.copyFrom(other.entries);", "young.copyFrom(other.young);", "old.copyFrom(other.old);", "got = other.got;",
            "System.arraycopy(other.happened, 0, happened, 0, KINDS);", "cap = other.cap;", "way = other.way;",
            "balance = other.balance;", "wentByTurns = other.wentByTurns;", "pinnedLoad = other.pinnedLoad;", "uses = other.uses;",
            "aging = other.aging;", "halvings = other.halvings;", "load = other.load;\n", "pinned[i] = other.pinned[i];",
            "heardSoFar = other.heardSoFar;", "didSoFar = other.didSoFar;", "on = other.on;", "shift = other.shift;",
            "act = other.act;", "rest = other.rest;", "divisor = other.divisor;", "kind = other.kind;", "next = other.next;"};
        for (String part : parts) {
            whole.broken(part, "");
        }
        s.of(13, "IMAGES aside)", due -> {
            TwinOrders x = Make.store(40, 1, 1);
            x.keep(0);
            x.put(2, 0, 1, 0);
            x.keep(1);
            due.is("back to IMAGE 0", x.back(0), 1);
            due.is("IMAGE 1 as it was", x.back(1), 2);
            TwinOrders y = Make.store(40, 1, 1);
            y.keep(0);
            y.keep(1);
            y.back(0);
            due.is("IMAGE 1, kept behind IMAGE 0, is there", y.back(1), 1);
        }).broken("now.copyFrom(image);", "now.copyFrom(image);\n        images[1 - k] = null;")
            .broken("now.copyFrom(image);", "now.copyFrom(image);\n        images[1 - k] = image;");
        s.of(13, "how many ENTRIES", due -> {
            TwinOrders x = new TwinOrders();
            due.is("none", x.keep(0), 0);
            due.is("60", Make.many(60).keep(1), 60);
        })
            .broken("image.copyFrom(now);\n        return now.store.entries.size;",
                "image.copyFrom(now);\n        return 0;");
        s.of(13, "-2.", due -> {
            TwinOrders x = new TwinOrders();
            for (int k : new int[] {-1, 2, Integer.MIN_VALUE, Integer.MAX_VALUE}) {
                due.is("keep(" + k + ")", x.keep(k), -2);
            }
        }).broken("IMAGES = 2", "IMAGES = 3")
            .broken("public int keep(int k) {\n        if (!within(k, 0, IMAGES - 1)) {",
                "public int keep(int k) {\n        if (!within(Math.abs(k), 0, IMAGES - 1)) {");
    }

    /** From an image of nothing on, so that nothing is right by having been there before. */
    private static void fromNothing(Due due, String before) {
        TwinOrders x = new TwinOrders();
        x.keep(0);
        String empty = Make.all(x);
        Make.enrich(x);
        x.keep(1);
        x.back(0);
        due.isTrue("nothing again", empty.equals(Make.all(x)));
        for (int n = 0; n < 8; n++) {
            x.listen(6, 9, 7, 1, 9, 9);
        }
        x.put(7, 1, 99, 0);
        x.tick(1);
        x.back(1);
        due.isTrue("all is as it was", before.equals(Make.all(x)));
        TwinOrders beside = Make.rich();
        for (int seed = 0; seed < 4; seed++) {
            due.is("goes on alike", x.chance(seed, 60), beside.chance(seed, 60));
            due.is("goes on alike", x.tick(9), beside.tick(9));
            due.isTrue("goes on alike", Make.all(x).equals(Make.all(beside)));
        }
    }

    private static void back(Sentences s) {
        s.of(14, "Back to IMAGE k, which stays", due -> {
            TwinOrders x = Make.store(40, 1, 1, 2, 1);
            x.keep(0);
            for (int times = 0; times < 3; times++) {
                x.put(3, 0, 40, 0);
                x.back(0);
                due.row("order(0, k)", k -> x.order(0, k), 1, 2);
                due.row("ghost(0, k)", k -> x.ghost(0, k));
            }
        }).broken("now.copyFrom(image);", "")
            .broken("now.copyFrom(image);", "now.copyFrom(image);\n        images[k] = null;")
            .broken("now.copyFrom(image);", "now.copyFrom(image);\n        image.copyFrom(paper);");
        s.of(14, "how many ENTRIES", due -> {
            TwinOrders x = Make.many(60);
            x.keep(0);
            x.resize(0);
            x.keep(1);
            due.is("60", x.back(0), 60);
            due.is("none", x.back(1), 0);
        })
            .broken("now.copyFrom(image);\n        return now.store.entries.size;",
                "int was = now.store.entries.size;\n        now.copyFrom(image);\n        return was;");
        s.of(14, "-2", due -> {
            TwinOrders x = new TwinOrders();
            x.keep(0);
            x.keep(1);
            for (int k : new int[] {-1, 2, Integer.MIN_VALUE, Integer.MAX_VALUE}) {
                due.is("back(" + k + ")", x.back(k), -2);
            }
        })
            .broken("public int back(int k) {\n        if (!within(k, 0, IMAGES - 1)) {\n"
                + "            return BAD_NUMBERS;",
                "public int back(int k) {\n        if (!within(k, 0, IMAGES - 1)) {\n            return BAD_STANDING;");
        s.of(14, "-3 it was not kept.", due -> {
            TwinOrders x = Make.store(40, 1, 1);
            due.is("back(0)", x.back(0), -3);
            due.is("back(1)", x.back(1), -3);
            x.keep(1);
            due.is("back(0)", x.back(0), -3);
            due.is("back(1)", x.back(1), 1);
            due.is("nothing is done", x.count(0), 1);
        })
            .broken("if (image == null) {\n            return BAD_STANDING;",
                "if (image == null) {\n            return 0;");
    }
}
