/** Terms II: events, listeners and their acts, hearing, the log, requests; and what is refused. */
final class EventSentences {
    private EventSentences() { }

    static void tell(Sentences s) {
        kinds(s);
        whoHears(s);
        actPut(s);
        otherActs(s);
        actCap(s);
        shifts(s);
        hearing(s);
        atMost(s);
        log(s);
        requests(s);
        refused(s);
        nothingDone(s);
    }

    /** CAME 1, CHANGED 1, MISSED 2, REJECTED 2, EVICTED 1, CAME 3, REMOVED 3, CAME 4, EXPIRED 4. */
    private static void eachKind(TwinOrders x) {
        x.resize(10);
        x.put(1, 0, 5, 0);
        x.put(1, 0, 5, 0);
        x.get(2);
        x.put(2, 0, 11, 0);
        x.put(3, 0, 10, 0);
        x.remove(3);
        x.put(4, 0, 1, 1);
        x.tick(1);
    }

    private static void kinds(Sentences s) {
        s.of(20, "EVENTS: 0 CAME (a KEY put that was not there), 1 CHANGED (put that was there), 2 EVICTED, 3 EXPIRED, "
            + "4 REMOVED, 5 MISSED, 6 REJECTED.", due -> {
                TwinOrders x = new TwinOrders();
                eachKind(x);
                due.row("kinds, the latest first", k -> x.heard(k, 0), 3, 0, 4, 0, 2, 6, 5, 1, 0);
                due.row("KEYS, the latest first", k -> x.heard(k, 1), 4, 4, 3, 3, 1, 2, 2, 1, 1);
            }).broken("int CAME = 0", "int CAME = 1", "int CHANGED = 1", "int CHANGED = 0")
            .broken("int EVICTED = 2", "int EVICTED = 3", "int EXPIRED = 3", "int EXPIRED = 2")
            .broken("int REMOVED = 4", "int REMOVED = 5", "int MISSED = 5", "int MISSED = 4")
            .broken("int MISSED = 5", "int MISSED = 6", "int REJECTED = 6", "int REJECTED = 5");
    }

    private static void whoHears(Sentences s) {
        s.of(10, "LISTENERS (8 at most, numbered from 0 on as they come)", due -> {
            TwinOrders x = new TwinOrders();
            for (int n = 0; n < 8; n++) {
                due.is("listen", x.listen(0, 1, 0, 0, 0, 0), n);
            }
            due.is("the ninth", x.listen(0, 1, 0, 0, 0, 0), -3);
            due.is("listeners", x.count(8), 8);
        }).broken("MOST_LISTENERS = 8", "MOST_LISTENERS = 7")
            .broken("MOST_LISTENERS = 8", "MOST_LISTENERS = 9");
        s.of(10, "hear EVENTS of one kind (or of all)", due -> {
            TwinOrders x = new TwinOrders();
            for (int kind = 0; kind <= 6; kind++) {
                x.listen(kind, 1, 0, 0, 0, 0);
            }
            x.listen(-1, 1, 0, 0, 0, 0);
            eachKind(x);
            due.row("how many each heard", n -> x.listener(n, 1), 3, 1, 1, 1, 1, 1, 1, 9);
        }).broken("kind == NONE || kind == told", "kind == told")
            .broken("kind == NONE || kind == told", "kind <= told");
        s.of(10, "of KEYS that leave a rest r when divided by m", due -> {
            TwinOrders x = new TwinOrders();
            x.listen(5, 9, 8, 0, 0, 0);
            x.listen(5, 1, 0, 0, 0, 0);
            x.listen(5, 7, 0, 0, 0, 0);
            Make.getAll(x, 8, 17, 998, 9, 7, 0, 999);
            due.is("8 by 9: 8, 17, 998", x.listener(0, 1), 3);
            due.is("0 by 1: all", x.listener(1, 1), 7);
            due.is("0 by 7: 7, 0", x.listener(2, 1), 2);
        }).broken("key % divisor == rest", "key % divisor >= rest")
            .broken("key % divisor == rest", "key / divisor == rest")
            .broken("divisor > 0 && key", "divisor > 1 && key");
        s.of(10, "(1 .. 9; r 0 .. m less 1)", due -> {
            TwinOrders x = new TwinOrders();
            due.is("m 0", x.listen(0, 0, 0, 0, 0, 0), -2);
            due.is("m 10", x.listen(0, 10, 0, 0, 0, 0), -2);
            due.is("m -1", x.listen(0, -1, 0, 0, 0, 0), -2);
            due.is("m 1, r 1", x.listen(0, 1, 1, 0, 0, 0), -2);
            due.is("m 9, r 9", x.listen(0, 9, 9, 0, 0, 0), -2);
            due.is("m 9, r -1", x.listen(0, 9, -1, 0, 0, 0), -2);
            due.is("m 1, r 0", x.listen(0, 1, 0, 0, 0, 0), 0);
            due.is("m 9, r 8", x.listen(0, 9, 8, 0, 0, 0), 1);
            due.is("m 9, r 0", x.listen(0, 9, 0, 0, 0, 0), 2);
        }).broken("MOST_DIVISOR = 9", "MOST_DIVISOR = 8")
            .broken("MOST_DIVISOR = 9", "MOST_DIVISOR = 10")
            .broken("within(m, 1, MOST_DIVISOR)", "within(m, 2, MOST_DIVISOR)")
            .broken("within(r, 0, m - 1)", "within(r, 0, m)")
            .broken("within(r, 0, m - 1)", "within(r, -1, m - 1)")
            .broken("within(r, 0, m - 1)", "within(r, 1, m - 1)")
            .broken("within(r, 0, m - 1)", "within(r, 0, m - 2)")
            .broken("within(m, 1, MOST_DIVISOR) || !within(r, 0, m - 1)",
                "within(m, 0, MOST_DIVISOR) || !within(r, 0, Math.max(m - 1, 0))");
        s.of(10, "and do an ACT each time", due -> {
            TwinOrders x = Make.store(40, 7, 1);
            x.listen(5, 1, 0, 2, 6, 0);
            Make.getAll(x, 1, 1, 1);
            due.is("as often as it heard", x.entry(7, 2), 4);
        })
            .broken("one.didSoFar += asInt(act(one, key, waiting.values[i]));",
                "if (one.heardSoFar == 1) { one.didSoFar += asInt(act(one, key, waiting.values[i])); }");
    }

    /** A listener that puts 10 keys on, of keys that leave 1 by 9 alone: it does not hear itself. */
    private static TwinOrders onwards(int kind) {
        TwinOrders x = new TwinOrders();
        x.listen(kind, 9, 1, 1, 10, 2);
        return x;
    }

    private static void actPut(Sentences s) {
        s.of(10, "0 nothing", due -> {
            TwinOrders x = new TwinOrders();
            x.listen(-1, 1, 0, 0, 5, 5);
            x.put(1, 0, 1, 0);
            due.is("entries", x.count(0), 1);
            due.is("uses", x.count(5), 1);
            due.is("no EVENT more", x.heard(1, 0), -1);
            due.is("heard", x.listener(0, 1), 1);
            due.is("did nothing", x.listener(0, 2), 0);
        })
            .broken("switch (one.act) {\n                case ACT_PUT:",
                "switch (one.act) {\n                case 0:\n                case ACT_PUT:");
        s.of(10, "1 PUT the KEY and d (modulo 1000)", due -> {
            TwinOrders x = new TwinOrders();
            x.listen(4, 2, 1, 1, 1, 1);
            x.listen(4, 2, 0, 1, -1, 1);
            x.put(999, 7, 1, 0);
            x.remove(999);
            due.is("999 and 1", x.entry(0, 0), 7);
            x.remove(0);
            due.is("0 less 1", x.entry(999, 0), 7);
        }).broken("Math.floorMod(key + shift, KEYS)", "(key + shift) % KEYS")
            .broken("Math.floorMod(key + shift, KEYS)", "key + shift")
            .broken("Math.floorMod(key + shift, KEYS)", "Math.floorMod(key + shift, KEYS - 1)");
        s.of(10, "with the VALUE of the ENTRY of which the EVENT tells", due -> {
            TwinOrders came = onwards(0);
            came.put(1, 71, 1, 0);
            due.is("CAME", came.entry(11, 0), 71);
            TwinOrders changed = onwards(1);
            changed.put(1, 71, 1, 0);
            changed.put(1, 72, 1, 0);
            due.is("CHANGED", changed.entry(11, 0), 72);
            TwinOrders evicted = onwards(2);
            evicted.put(1, -73, 40, 0);
            evicted.put(2, 5, 1, 0);
            due.is("EVICTED", evicted.entry(11, 0), -73);
            TwinOrders expired = onwards(3);
            expired.put(1, 74, 1, 1);
            expired.tick(1);
            due.is("EXPIRED", expired.entry(11, 0), 74);
            TwinOrders removed = onwards(4);
            removed.put(1, 75, 1, 0);
            removed.remove(1);
            due.is("REMOVED", removed.entry(11, 0), 75);
        }).broken("act(one, key, waiting.values[i])", "act(one, key, 0)")
            .broken("tell(EVICTED, key, entries.values[slot]", "tell(EVICTED, key, 0")
            .broken("tell(kind, entries.keys[slot], entries.values[slot]", "tell(kind, entries.keys[slot], 0")
            .broken("tell(slot == NONE ? CAME : CHANGED, key, value, weight)",
                "tell(slot == NONE ? CAME : CHANGED, key, 0, weight)");
        s.of(10, "(0: of MISSED, REJECTED)", due -> {
            TwinOrders missed = onwards(5);
            missed.put(11, 5, 1, 0);
            missed.get(1);
            due.is("MISSED", missed.entry(11, 0), 0);
            TwinOrders rejected = onwards(6);
            rejected.put(1, 44, 1, 0);
            rejected.put(1, 55, 41, 0);
            due.is("REJECTED, of one that is there", rejected.entry(11, 0), 0);
            due.is("it came", rejected.entry(11, 2), 1);
        }).broken("tell(REJECTED, key, 0, weight);", "tell(REJECTED, key, value, weight);")
            .broken("tell(MISSED, key, 0, 0);", "tell(MISSED, key, 1, 0);");
        s.of(10, "WEIGHT w, no TILL", due -> {
            TwinOrders x = onwards(1);
            x.tick(3);
            x.put(1, 0, 9, 8);
            x.put(1, 0, 9, 8);
            due.is("WEIGHT", x.entry(11, 1), 2);
            due.is("TILL", x.entry(11, 4), -1);
        }).broken("store.bring(key, value, one.weight, NONE) != NONE", "store.bring(key, value, 9, NONE) != NONE")
            .broken("store.bring(key, value, one.weight, NONE) != NONE",
                "store.bring(key, value, one.weight, ticks + 8) != NONE");
    }

    private static void otherActs(Sentences s) {
        s.of(10, "2 GET the KEY and d", due -> {
            TwinOrders x = Make.store(40, 0, 1, 999, 1);
            x.listen(5, 2, 0, 2, 1, 0);
            x.listen(5, 2, 1, 2, -3, 0);
            x.get(998);
            due.is("998 and 1", x.entry(999, 2), 2);
            x.get(3);
            due.is("3 less 3", x.entry(0, 2), 2);
            due.is("got by ACTS", x.count(9), 2);
            x.turn(0, false);
            x.get(501);
            due.is("501 less 3 is MISSED", x.heard(0, 1), 498);
        }).broken("return store.fetch(key) == 1;", "return store.fetch(told) == 1;")
            .broken("return store.fetch(key) == 1;", "return store.entries.find(key) != NONE;");
        s.of(10, "3 remove the KEY and d", due -> {
            TwinOrders x = Make.store(40, 0, 1, 1, 1);
            x.listen(5, 1, 0, 3, 1, 0);
            x.get(999);
            due.row("order(0, k)", k -> x.order(0, k), 1);
            due.is("REMOVED", x.heard(0, 0), 4);
            due.is("no GHOST", x.ghost(0, 0), -1);
            x.get(500);
            due.is("none there: no EVENT", x.heard(0, 0), 5);
        }).broken("return store.takeOut(key) != BAD_STANDING;", "return store.takeOut(told) != BAD_STANDING;")
            .broken("return store.takeOut(key) != BAD_STANDING;",
                "store.evict(store.entries.find(key));\n                    return true;");
        s.of(10, "4 pin the KEY and d", due -> {
            TwinOrders x = Make.store(40, 0, 1, 1, 1);
            x.listen(5, 1, 0, 4, 1, 0);
            x.get(999);
            due.is("999 and 1", x.entry(0, 5), 1);
            due.is("the other one", x.entry(1, 5), 0);
            x.get(999);
            due.is("PINNED still", x.entry(0, 5), 1);
        }).broken("return store.fasten(key, true) == 1;", "return store.fasten(told, true) == 1;")
            .broken("return store.fasten(key, true) == 1;", "return store.fasten(key, false) == 1;");
        s.of(10, "5 unpin it", due -> {
            TwinOrders x = Make.store(40, 0, 1, 1, 1);
            Make.pinAll(x, 0, 1);
            x.listen(5, 1, 0, 5, 1, 0);
            x.get(999);
            due.is("999 and 1", x.entry(0, 5), 0);
            due.is("the other one", x.entry(1, 5), 1);
            x.get(999);
            due.is("still not", x.entry(0, 5), 0);
        }).broken("return store.fasten(key, false) == 1;", "return store.fasten(told, false) == 1;")
            .broken("return store.fasten(key, false) == 1;", "return store.fasten(key, true) == 1;");
    }

    private static void actCap(Sentences s) {
        s.of(10, "6 CAP is d more", due -> {
            TwinOrders x = Make.store(20, 1, 8, 2, 8);
            x.listen(5, 2, 0, 6, -6, 0);
            x.listen(5, 2, 1, 6, 7, 0);
            x.get(11);
            due.is("more", x.count(2), 27);
            x.get(12);
            due.is("less", x.count(2), 21);
            due.is("none EVICTED", x.count(11), 0);
            x.get(12);
            due.is("less", x.count(2), 15);
            due.is("one EVICTED", x.heard(0, 0), 2);
            due.is("by that ACT", x.heard(0, 2), 1);
        }).broken("store.recap(store.cap + one.shift)", "store.recap(one.shift)")
            .broken("store.recap(store.cap + one.shift)", "store.recap(store.cap - one.shift)");
        s.of(10, "(where resize() would be refused nothing).", due -> {
            TwinOrders most = Make.store(4990);
            most.listen(5, 1, 0, 6, 5, 0);
            Make.getAll(most, 1, 2);
            due.is("5000", most.count(2), 5000);
            most.get(3);
            due.is("not above", most.count(2), 5000);
            most = Make.store(4997);
            most.listen(5, 1, 0, 6, 5, 0);
            most.get(1);
            due.is("nothing, not a part", most.count(2), 4997);
            TwinOrders least = Make.store(12);
            least.listen(5, 1, 0, 6, -5, 0);
            Make.getAll(least, 1, 2, 3);
            due.is("nothing, not a part", least.count(2), 2);
            least.resize(5);
            least.get(1);
            due.is("0", least.count(2), 0);
            TwinOrders pinned = Make.store(20, 1, 8, 2, 5);
            pinned.pin(1, true);
            pinned.listen(5, 1, 0, 6, -6, 0);
            Make.getAll(pinned, 5, 6);
            due.is("as much as PINNED ones", pinned.count(2), 8);
            pinned.resize(13);
            pinned.put(3, 0, 5, 0);
            pinned.get(7);
            due.is("PINNED ones would be above", pinned.count(2), 13);
            due.is("none EVICTED", pinned.count(0), 2);
        })
            .broken("store.recap(store.cap + one.shift)",
                "store.recap(Math.max(0, Math.min(MOST_CAP, store.cap + one.shift)))")
            .broken("if (entries.pinnedLoad > newCap) {", "if (entries.pinnedLoad >= newCap) {")
            .broken("if (entries.pinnedLoad > newCap) {", "if (entries.pinnedLoad > newCap + 5) {");
    }

    private static void shifts(Sentences s) {
        s.of(10, "(d -999 .. 999", due -> {
            TwinOrders x = new TwinOrders();
            for (int act = 0; act <= 6; act++) {
                due.is("d 1000", x.listen(0, 1, 0, act, 1000, 1), -2);
                due.is("d -1000", x.listen(0, 1, 0, act, -1000, 1), -2);
            }
            due.is("d least", x.listen(0, 1, 0, 6, Integer.MIN_VALUE, 1), -2);
            due.is("d most", x.listen(0, 1, 0, 6, Integer.MAX_VALUE, 1), -2);
            due.is("d 999", x.listen(0, 1, 0, 6, 999, 1), 0);
            due.is("d -999", x.listen(0, 1, 0, 6, -999, 1), 1);
            due.is("d 999", x.listen(0, 1, 0, 2, 999, 1), 2);
            due.is("d -999", x.listen(0, 1, 0, 2, -999, 1), 3);
        }).broken("MOST_SHIFT = 999", "MOST_SHIFT = 998")
            .broken("MOST_SHIFT = 999", "MOST_SHIFT = 1000")
            .broken("within(d, -MOST_SHIFT, MOST_SHIFT)", "within(d, 0, MOST_SHIFT)")
            .broken("within(d, -MOST_SHIFT, MOST_SHIFT)", "within(d, -MOST_SHIFT - 1, MOST_SHIFT)");
        s.of(10, "modulo 1000: 0 .. 999", due -> {
            int[][] at = {{0, -999, 1}, {999, 999, 998}, {5, -5, 0}, {5, -6, 999}, {995, 4, 999}, {995, 5, 0}, {0, 0, 0}, {999, 0, 999}};
            for (int[] a : at) {
                TwinOrders x = new TwinOrders();
                x.listen(5, 1, 0, 1, a[1], 1);
                x.get(a[0]);
                due.is(a[0] + " and " + a[1], x.order(0, 0), a[2]);
            }
        }).broken("Math.floorMod(key + shift, KEYS)", "Math.abs(key + shift) % KEYS")
            .broken("Math.floorMod(key + shift, KEYS)", "Math.min(KEYS - 1, Math.floorMod(key + shift, KEYS + 1))");
        s.of(10, "of 6 as it is.)", due -> {
            TwinOrders x = Make.store(1500);
            x.listen(5, 2, 0, 6, -999, 0);
            x.listen(5, 2, 1, 6, 999, 0);
            x.get(2);
            due.is("999 less", x.count(2), 501);
            x.get(1);
            due.is("999 more", x.count(2), 1500);
        }).broken("store.recap(store.cap + one.shift)", "store.recap(store.cap + Math.floorMod(one.shift, KEYS))");
    }

    private static void hearing(Sentences s) {
        s.of(10, "All that one call does is done first; then its EVENTS are heard in the order in which they came", due -> {
            TwinOrders x = Make.store(20, 1, 10, 2, 10);
            x.listen(2, 1, 0, 2, 2, 0);
            x.put(3, 0, 20, 0);
            // As 1 and 2 are told, both are gone and 3 is there: 1 gets 3, 2 misses 4.
            due.is("3 was there", x.entry(3, 2), 2);
            due.first("KEYS, the latest first", k -> x.heard(k, 1), 4, 3, 2, 1);
            due.first("kinds", k -> x.heard(k, 0), 5, 0, 2, 2);
        })
            .broken("int kind = waiting.kinds[i];\n                int key = waiting.keys[i];",
                "int k = i < 2 && waiting.size > 1 ? 1 - i : i;\n                int kind = waiting.kinds[k];\n"
                + "                int key = waiting.keys[k];");
        s.of(11, "each by LISTENERS by numbers that are ON", due -> {
            TwinOrders x = Make.store(40, 8, 1);
            x.listen(5, 1, 0, 1, 1, 1);
            x.listen(5, 1, 0, 3, 1, 0);
            x.listen(5, 1, 0, 3, 2, 0);
            x.turn(2, false);
            x.get(6);
            due.is("0 puts 7 first, then 1 removes it", x.entry(7, 0), -10000);
            due.is("2 is not ON", x.entry(8, 2), 1);
            due.is("two heard it", x.heard(2, 4), 2);
        }).broken("Listener one = listeners[j];", "Listener one = listeners[listenerCount - 1 - j];")
            .broken("one.on && one.hearsKind(kind)", "one.hearsKind(kind)");
        s.of(10, "what these ACTS do comes at once, their EVENTS are heard behind all that wait.", due -> {
            TwinOrders x = Make.store(20, 1, 10, 2, 10);
            x.listen(2, 1, 0, 1, 100, 1);
            x.listen(2, 1, 0, 2, 100, 0);
            x.put(3, 0, 18, 0);
            due.is("put by 0, there for 1 at once", x.entry(101, 2), 2);
            due.first("KEYS, the latest first", k -> x.heard(k, 1), 102, 101, 3, 2, 1);
            due.first("DEPTH", k -> x.heard(k, 2), 1, 1, 0, 0, 0);
        })
            .broken("kinds[size] = kind;\n            keys[size] = key;\n            values[size] = value;\n"
                + "            weights[size] = weight;\n            depths[size] = depth;",
                "int p = size;\n            for (; depth > 0 && p > at + 1; p--) {\n"
                + "                kinds[p] = kinds[p - 1];\n                keys[p] = keys[p - 1];\n"
                + "                values[p] = values[p - 1];\n                weights[p] = weights[p - 1];\n"
                + "                depths[p] = depths[p - 1];\n            }\n            kinds[p] = kind;\n"
                + "            keys[p] = key;\n            values[p] = value;\n            weights[p] = weight;\n"
                + "            depths[p] = depth;",
                "int lost;\n        int depth;\n",
                "int lost;\n        int depth;\n        int at;\n",
                "int kind = waiting.kinds[i];",
                "waiting.at = i;\n                int kind = waiting.kinds[i];");
        s.of(20, "DEPTH of an EVENT is 0 by the call itself, else one more than that of the EVENT that was heard.", due -> {
            TwinOrders x = Make.store(40, 4, 1);
            x.listen(5, 1, 0, 2, 1, 0);
            x.get(0);
            due.first("KEYS", k -> x.heard(k, 1), 3, 2, 1, 0);
            due.first("DEPTH", k -> x.heard(k, 2), 3, 2, 1, 0);
            x.get(3);
            due.is("0 again by the next call", x.heard(0, 2), 0);
        }).broken("waiting.depth = depth + 1;", "waiting.depth = depth;")
            .broken("waiting.depth = depth + 1;", "waiting.depth = 1;")
            .broken("lost = 0;\n            depth = 0;", "lost = 0;");
    }

    /** Each MISSED key asks for the next one, up to the one that is there. */
    private static TwinOrders chain(int there) {
        TwinOrders x = Make.store(40, there, 1);
        x.listen(5, 1, 0, 2, 1, 0);
        return x;
    }

    private static void atMost(Sentences s) {
        s.of(10, "At most 100 EVENTS are heard by one call", due -> {
            int[][] at = {{99, 99}, {100, 100}, {101, 100}, {300, 100}};
            for (int[] a : at) {
                TwinOrders x = chain(a[0]);
                x.get(0);
                due.is("up to " + a[0], x.listener(0, 1), a[1]);
                x.get(a[0] - 1);
                due.is("by the next call anew", x.listener(0, 1), a[1] + 1);
            }
        }).broken("MOST_HEARD = 100", "MOST_HEARD = 99")
            .broken("MOST_HEARD = 100", "MOST_HEARD = 101");
        s.of(43, "what waits then is LOST.", due -> {
            int[][] at = {{100, 0, 100}, {101, 1, 101}, {300, 1, 101}};
            for (int[] a : at) {
                TwinOrders x = chain(a[0]);
                x.get(0);
                due.is("LOST, up to " + a[0], x.count(14), a[1]);
                due.is("what was done is done", x.count(10), a[2]);
                x.get(a[0] - 1);
                due.is("LOST, not heard by the next call", x.count(14), a[1]);
                due.is("the next call's own", x.heard(0, 1), a[0] - 1);
            }
            TwinOrders two = chain(999);
            two.listen(5, 1, 0, 2, 1, 0);
            two.get(0);
            due.is("two each: 201 in all", two.count(14), 101);
            two.get(0);
            due.is("LOST so far", two.count(14), 202);
        }).broken("lost++;\n                return;", "return;")
            .broken("lost += waiting.lost;", "lost = waiting.lost;")
            .broken("lost += waiting.lost;", "lost += Math.min(1, waiting.lost);")
            .broken("size = 0;\n            lost = 0;", "size = 0;");
    }

    private static void log(Sentences s) {
        s.of(20, "THE LOG: the latest 40 EVENTS heard.", due -> {
            TwinOrders x = new TwinOrders();
            for (int key = 0; key < 40; key++) {
                x.get(key);
            }
            due.is("40: the eldest", x.heard(39, 1), 0);
            x.get(40);
            due.is("41: the eldest went", x.heard(39, 1), 1);
            due.is("40 alone", x.heard(40, 1), -1);
            due.is("the latest", x.heard(0, 1), 40);
        }).broken("MOST_LOGGED = 40", "MOST_LOGGED = 39")
            .broken("MOST_LOGGED = 40", "MOST_LOGGED = 41");
    }

    private static void requests(Sentences s) {
        s.of(21, "REQUESTS: the latest 100 KEYS of put() and get() as calls", due -> {
            TwinOrders x = new TwinOrders();
            for (int key = 0; key < 100; key += 2) {
                x.get(key);
                x.put(key + 1, 0, 1, 0);
            }
            due.is("100: the eldest", x.request(0), 0);
            due.is("as often as asked", x.count(15), 100);
            x.get(500);
            due.is("101: the eldest went", x.request(0), 1);
            due.is("the latest", x.request(99), 500);
            due.is("100 alone", x.request(100), -1);
            due.is("100 alone", x.count(15), 100);
            x.remove(99);
            x.pin(97, true);
            x.stir(3, 1, -1, 0);
            due.is("no others", x.request(99), 500);
        }).broken("MOST_REQUESTS = 100", "MOST_REQUESTS = 99")
            .broken("MOST_REQUESTS = 100", "MOST_REQUESTS = 101");
        s.of(21, "(also REJECTED, MISSED ones), not those of ACTS.", due -> {
            TwinOrders x = Make.store(40);
            x.listen(-1, 2, 0, 1, 101, 1);
            x.listen(-1, 2, 0, 2, 201, 0);
            x.put(2, 0, 41, 0);
            x.get(4);
            x.put(6, 0, 1, 0);
            due.row("request(k)", x::request, 2, 4, 6);
        })
            .broken("return store.fetch(key) == 1;",
                "requests.add(key);\n                    return store.fetch(key) == 1;")
            .broken("return store.bring(key, value, one.weight, NONE) != NONE;",
                "requests.add(key);\n                    return store.bring(key, value, one.weight, NONE) != NONE;")
            .broken("lives == 0 ? NONE : ticks + lives);\n",
                "lives == 0 ? NONE : ticks + lives);\n            requests.size -= asInt(answer == NONE);\n")
            .broken("int answer = store.fetch(key);\n",
                "int answer = store.fetch(key);\n            requests.size -= 1 - answer;\n");
    }

    private static void refused(Sentences s) {
        s.of(2, "-2 is an answer to what can't be by its numbers", due -> {
            TwinOrders x = new TwinOrders();
            int[] answers = {x.put(1000, 0, 1, 0), x.get(1000), x.remove(1000), x.pin(1000, true), x.resize(5001), x.way(5),
                x.aging(0), x.tick(0), x.listen(7, 1, 0, 0, 0, 0), x.turn(0, true), x.chance(-1, 0), x.keep(2), x.back(2)};
            for (int i = 0; i < answers.length; i++) {
                due.is("the call of promise " + (i + 2), answers[i], -2);
            }
        }).broken("BAD_NUMBERS = -2", "BAD_NUMBERS = -4");
        s.of(4, "-3 by what stands (of both -2)", due -> {
            TwinOrders x = Make.store(40, 1, 10);
            x.pin(1, true);
            due.is("remove(2)", x.remove(2), -3);
            due.is("remove(-1)", x.remove(-1), -2);
            due.is("pin(2, true)", x.pin(2, true), -3);
            due.is("pin(-1, true)", x.pin(-1, true), -2);
            due.is("resize(9)", x.resize(9), -3);
            due.is("resize(-1)", x.resize(-1), -2);
            due.is("back(1)", x.back(1), -3);
            due.is("back(-1)", x.back(-1), -2);
            for (int n = 0; n < 8; n++) {
                x.listen(0, 1, 0, 0, 0, 0);
            }
            due.is("a ninth", x.listen(0, 1, 0, 0, 0, 0), -3);
            due.is("a ninth that can't be", x.listen(7, 1, 0, 0, 0, 0), -2);
        }).broken("BAD_STANDING = -3", "BAD_STANDING = -4")
            .broken("int answer = store.recap(cap);",
                "int answer = store.entries.pinnedLoad > cap ? BAD_STANDING : store.recap(cap);")
            .broken("if (!within(kind, NONE, KINDS - 1)",
                "if (now.listenerCount >= MOST_LISTENERS) {\n            return BAD_STANDING;\n        }\n"
                + "        if (!within(kind, NONE, KINDS - 1)")
            .broken("return isKey(key) ? now.callRemove(key) : BAD_NUMBERS;", "return now.callRemove(key);");
        s.of(2, "these do nothing, no REQUEST, no EVENT.", due -> {
            TwinOrders x = Make.rich();
            for (int n = x.count(8); n < 8; n++) {
                x.listen(-1, 1, 0, 6, -1, 0);
            }
            String before = Make.all(x);
            int[] answers = {x.put(1000, 0, 1, 0), x.put(1, 10000, 1, 0), x.put(1, 0, 0, 0), x.put(1, 0, 1, -1), x.get(-1),
                x.remove(1000), x.pin(1000, true), x.resize(5001), x.way(5), x.aging(1000), x.tick(1000), x.tick(0),
                x.listen(7, 1, 0, 0, 0, 0), x.turn(8, false), x.chance(-1, 60), x.chance(1, 61), x.keep(2), x.back(2),
                x.remove(999), x.pin(999, true), x.resize(x.count(16) - 1), x.listen(0, 1, 0, 0, 0, 0), x.back(0)};
            for (int i = 0; i < answers.length; i++) {
                due.is("refused, " + i, answers[i], i < 18 ? -2 : -3);
            }
            due.isTrue("all is as it was", before.equals(Make.all(x)));
        })
            .broken("!within(lives, 0, MOST_TICKS)) {\n",
                "!within(lives, 0, MOST_TICKS)) {\n            now.requests.add(0);\n")
            .broken("if (slot == NONE) {\n                return BAD_STANDING;",
                "if (slot == NONE) {\n                tell(MISSED, key, 0, 0);\n                return BAD_STANDING;")
            .broken("cap = newCap;\n            balance",
                "balance",
                "if (entries.pinnedLoad > newCap) {",
                "cap = newCap;\n            if (entries.pinnedLoad > newCap) {");
    }

    private static void nothingDone(Sentences s) {
        s.of(15, "Ahead of the calls `entry`, `order`, `ghost`, `bucket`, `listener`, `heard`, `request` the interface says: "
            + "---- what there is.", due -> {
                TwinOrders x = Make.rich();
                String before = Make.all(x);
                x.bucket(-1, 0);
                x.bucket(0, 2);
                due.isTrue("asked twice the same", before.equals(Make.all(x)));
            }).broken("int shared = all.countAt(k);", "int shared = all.countAt(k);\n        all.use(0);")
            .broken("int at = log.latest(k);", "int at = log.latest(k);\n        log.size -= asInt(k == 39);");
        s.of(22, "Ahead of the calls `victim`, `victims`, `room`, `kept`, `pack`, `wakes`, `ring`, `stir`, `behind`, `turnOf`, "
            + "`lead`, `logged`, `hot`, `profile`, `agree`, `regret`, `distance`, `replay`, `replayed`, `least`, `best`, `count` "
            + "the interface says: ---- what would be.", due -> {
                TwinOrders x = Make.rich();
                String before = Make.all(x);
                askWhatWouldBe(x);
                due.isTrue("all is as it was", before.equals(Make.all(x)));
                TwinOrders beside = Make.rich();
                x.resize(40);
                beside.resize(40);
                due.is("goes on alike", x.chance(5, 60), beside.chance(5, 60));
                due.isTrue("goes on alike", Make.all(x).equals(Make.all(beside)));
            })
            .broken("paper.store.copyFrom(now.store);\n        paper.store.waiting.open();\n        return paper.store;",
                "now.store.waiting.open();\n        return now.store;")
            .broken("paper.callPut(key, 0, weight, 0);",
                "paper.callPut(key, 0, weight, 0);\n        now.callPut(key, 0, weight, 0);");
    }

    private static void askWhatWouldBe(TwinOrders x) {
        x.victim(2);
        x.victims(50, -1);
        x.room(0);
        x.room(1);
        x.kept(x.count(16), -1);
        x.pack(50);
        x.wakes(0, 1);
        x.ring(0);
        x.stir(3, 30, -1, 0);
        for (int key = 0; key < 70; key++) {
            x.behind(key, 50, 0);
            x.turnOf(key);
        }
        x.lead(0, 3);
        x.logged(0, 0);
        x.hot(0, 0);
        x.profile(0);
        x.agree(5, -1);
        x.regret(2, 4, 0);
        x.distance(99);
        x.replay(5, 9, 0);
        x.replayed(4, 9, 0);
        x.least(4, 10);
        x.best(7, 0);
        x.count(0);
    }
}
