/** Promises 15 to 18, 20, 21 and 43: what there is. */
final class StandingSentences {
    private StandingSentences() { }

    static void tell(Sentences s) {
        entry(s);
        order(s);
        ghost(s);
        bucket(s);
        heard(s);
        request(s);
        countOfStore(s);
        countOfDoing(s);
    }

    /** By use: 30 10 20 40 50; by count: 30 40 50 20 10. */
    private static TwinOrders five() {
        TwinOrders x = new TwinOrders();
        x.put(10, -5, 3, 8);
        x.put(20, 6, 4, 0);
        x.put(30, 7, 5, 0);
        Make.getAll(x, 10, 10, 20);
        x.put(40, 0, 6, 0);
        x.put(50, 0, 7, 0);
        x.pin(20, true);
        return x;
    }

    private static void entry(Sentences s) {
        s.of(15, "Of the ENTRY of a KEY: 0 VALUE, 1 WEIGHT, 2 COUNT, 3 LAST", due -> {
            TwinOrders x = five();
            due.first("entry(10, what)", what -> x.entry(10, what), -5, 3, 3, 5);
            due.first("entry(50, what)", what -> x.entry(50, what), 0, 7, 1, 8);
            x.put(50, -77, 7, 0);
            x.remove(10);
            due.first("entry(50, what), another one is gone", what -> x.entry(50, what), -77, 7, 2, 9, -1, 0, 3, 3);
        }).broken("case 0: return all.values[slot];", "case 0: return all.weights[slot];")
            .broken("values[slot] = values[size];", "")
            .broken("weights[slot] = weights[size];", "")
            .broken("counts[slot] = counts[size];", "")
            .broken("lasts[slot] = lasts[size];", "")
            .broken("case 1: return all.weights[slot];", "case 1: return all.counts[slot];")
            .broken("case 2: return all.counts[slot];", "case 2: return all.lasts[slot];")
            .broken("case 3: return all.lasts[slot];", "case 3: return all.counts[slot];");
        s.of(15, "4 TILL (NONE)", due -> {
            TwinOrders x = five();
            due.is("a TICK", x.entry(10, 4), 8);
            due.is("NONE", x.entry(20, 4), -1);
        }).broken("case 4: return all.tills[slot];", "case 4: return all.tills[slot] - now.ticks + 1;");
        s.of(15, "5 PINNED (1, 0)", due -> {
            TwinOrders x = five();
            due.is("PINNED", x.entry(20, 5), 1);
            due.is("not", x.entry(10, 5), 0);
        }).broken("case 5: return asInt(all.pinned[slot]);", "case 5: return asInt(!all.pinned[slot]);");
        s.of(15, "6 its place in ORDER 0 (0 the first), 7 in ORDER 1.", due -> {
            TwinOrders x = five();
            due.is("the first of ORDER 0", x.entry(30, 6), 0);
            due.is("the last of ORDER 0", x.entry(50, 6), 4);
            due.is("ORDER 0", x.entry(10, 6), 1);
            due.is("the first of ORDER 1", x.entry(30, 7), 0);
            due.is("the last of ORDER 1", x.entry(10, 7), 4);
            due.is("ORDER 1", x.entry(50, 7), 2);
            due.is("one alone", Make.store(40, 7, 1).entry(7, 7), 0);
            TwinOrders full = Make.many(60);
            due.is("the last of 60", full.entry(59, 6), 59);
        }).broken("case 6: return all.placeOf(BY_USE, slot);", "case 6: return all.placeOf(BY_COUNT, slot);")
            .broken("case 7: return all.placeOf(BY_COUNT, slot);", "case 7: return all.placeOf(BY_USE, slot);")
            .broken("case 6: return all.placeOf(BY_USE, slot);", "case 6: return all.placeOf(BY_USE, slot) + 1;");
        s.of(15, "-10000 when there is none such", due -> {
            TwinOrders x = five();
            for (int what = 0; what <= 7; what++) {
                for (int key : new int[] {0, 11, 999, -1, 1000, Integer.MIN_VALUE, Integer.MAX_VALUE}) {
                    due.is("entry(" + key + ", " + what + ")", x.entry(key, what), -10000);
                }
            }
            x.remove(10);
            due.is("gone", x.entry(10, 0), -10000);
            due.is("nothing there", new TwinOrders().entry(0, 0), -10000);
        }).broken("if (slot == NONE) {\n            return NO_ENTRY;", "if (slot == NONE) {\n            return NONE;");
        s.of(15, "or for others.", due -> {
            TwinOrders x = five();
            for (int what : new int[] {-1, 8, 9, Integer.MIN_VALUE, Integer.MAX_VALUE}) {
                due.is("entry(10, " + what + ")", x.entry(10, what), -10000);
            }
        }).broken("default: return NO_ENTRY;", "default: return NONE;")
            .broken("case 7: return all.placeOf(BY_COUNT, slot);",
                "case 7: case 8: return all.placeOf(BY_COUNT, slot);");
    }

    private static void order(Sentences s) {
        s.of(16, "The k-th KEY by an ORDER (0, 1).", due -> {
            TwinOrders x = five();
            due.first("order(0, k)", k -> x.order(0, k), 30, 10, 20, 40, 50);
            due.first("order(1, k)", k -> x.order(1, k), 30, 40, 50, 20, 10);
            TwinOrders full = Make.many(60);
            due.is("the 60th", full.order(0, 59), 59);
        })
            .broken("isOrder(order) ? now.store.entries.keyAt(order, k)",
                "isOrder(order) ? now.store.entries.keyAt(1 - order, k)")
            .broken("if (placeOf(order, i) == place) {", "if (placeOf(order, i) == place + 1) {");
        s.of(16, "NONE when there is none such.", due -> {
            TwinOrders x = five();
            for (int order = 0; order <= 1; order++) {
                for (int k : new int[] {-1, 5, 60, Integer.MIN_VALUE, Integer.MAX_VALUE}) {
                    due.is("order(" + order + ", " + k + ")", x.order(order, k), -1);
                }
                due.is("nothing there", new TwinOrders().order(order, 0), -1);
            }
            for (int order : new int[] {-1, 2, Integer.MIN_VALUE, Integer.MAX_VALUE}) {
                due.is("order(" + order + ", 0)", x.order(order, 0), -1);
            }
        }).broken("return isOrder(order) ? now.store", "return order >= 0 ? now.store")
            .broken("return isOrder(order) ? now.store", "return order <= 1 ? now.store")
            .broken("if (placeOf(order, i) == place) {", "if (placeOf(order, i) == Math.max(place, 0)) {");
    }

    private static void ghost(Sentences s) {
        s.of(17, "The k-th GHOST, the latest first (sort 0 YOUNG, 1 OLD).", due -> {
            TwinOrders x = five();
            x.pin(20, false);
            x.resize(0);
            due.row("ghost(0, k)", k -> x.ghost(0, k), 50, 40, 30);
            due.row("ghost(1, k)", k -> x.ghost(1, k), 20, 10);
        }).broken("case 0: return now.store.young.keyAt(k);", "case 0: return now.store.old.keyAt(k);")
            .broken("case 1: return now.store.old.keyAt(k);", "case 1: return now.store.young.keyAt(k);")
            .broken("return k >= 0 && k < size ? keys[k] : NONE;",
                "return k >= 0 && k < size ? keys[size - 1 - k] : NONE;");
        s.of(17, "NONE when there is none such.", due -> {
            TwinOrders x = five();
            x.pin(20, false);
            x.resize(0);
            for (int k : new int[] {-1, 3, 15, 16, Integer.MIN_VALUE, Integer.MAX_VALUE}) {
                due.is("ghost(0, " + k + ")", x.ghost(0, k), -1);
                due.is("ghost(1, " + k + ")", x.ghost(1, k), -1);
            }
            for (int sort : new int[] {-1, 2, Integer.MIN_VALUE, Integer.MAX_VALUE}) {
                due.is("ghost(" + sort + ", 0)", x.ghost(sort, 0), -1);
            }
            due.is("nothing there", new TwinOrders().ghost(0, 0), -1);
        })
            .broken("return k >= 0 && k < size ? keys[k] : NONE;",
                "return k >= 0 && k <= size && k < MOST_GHOSTS ? keys[k] : NONE;")
            .broken("case 1: return now.store.old.keyAt(k);", "case 1: case 2: return now.store.old.keyAt(k);")
            .broken("return k >= 0 && k < size ? keys[k] : NONE;", "return k < size ? keys[Math.max(k, 0)] : NONE;");
    }

    private static void bucket(Sentences s) {
        s.of(18, "ORDER 1 by COUNTS: how many unlike COUNTS there are (k NONE, whatever what)", due -> {
            due.is("none", new TwinOrders().bucket(-1, 0), 0);
            due.is("one", Make.many(60).bucket(-1, 0), 1);
            TwinOrders unlike = Make.store(40, 1, 1, 2, 1);
            unlike.get(2);
            due.is("as many as ENTRIES", unlike.bucket(-1, 0), 2);
            TwinOrders x = five();
            for (int what : new int[] {0, 1, 2, 3, -1, Integer.MIN_VALUE, Integer.MAX_VALUE}) {
                due.is("bucket(-1, " + what + ")", x.bucket(-1, what), 3);
            }
        }).broken("return all.unlikeCounts();", "return what == 0 ? all.unlikeCounts() : NONE;")
            .broken("return all.unlikeCounts();", "return all.size;")
            .broken("for (int i = 0; i < size && at != NONE; i++) {", "for (int i = 1; i < size && at != NONE; i++) {");
        s.of(18, "how many ENTRIES have the k-th, rising (what 0), that COUNT (1), their WEIGHTS together (2).", due -> {
            TwinOrders x = five();
            due.row("bucket(k, 0)", k -> x.bucket(k, 0), 3, 1, 1);
            due.row("bucket(k, 1)", k -> x.bucket(k, 1), 1, 2, 3);
            due.row("bucket(k, 2)", k -> x.bucket(k, 2), 18, 4, 3);
            x.get(10);
            x.get(10);
            due.row("a gap", k -> x.bucket(k, 1), 1, 2, 5);
            x.remove(50);
            due.row("50 is gone", k -> x.bucket(k, 0), 2, 1, 1);
            due.row("50 is gone", k -> x.bucket(k, 2), 11, 4, 3);
            due.is("all of 60", Make.many(60).bucket(0, 0), 60);
        }).broken("case 0: return all.howManyOf(shared);", "case 0: return shared;")
            .broken("int howManyOf(int shared) {\n            int found = 0;\n            for (int i = 0; i < size; i++) {",
                "int howManyOf(int shared) {\n            int found = 0;\n            for (int i = 0; i <= size; i++) {")
            .broken("case 1: return shared;", "case 1: return k + 1;")
            .broken("case 2: return all.weightsOf(shared);", "case 2: return all.howManyOf(shared);")
            .broken("counts[i] < found)", "counts[i] > found)");
        s.of(18, "NONE when there is none such", due -> {
            TwinOrders x = five();
            for (int k : new int[] {3, 4, 5, 60, -2, Integer.MIN_VALUE, Integer.MAX_VALUE}) {
                for (int what = 0; what <= 2; what++) {
                    due.is("bucket(" + k + ", " + what + ")", x.bucket(k, what), -1);
                }
            }
            due.is("nothing there", new TwinOrders().bucket(0, 0), -1);
        }).broken("if (shared == NONE) {\n            return NONE;", "if (shared == NONE) {\n            return 0;")
            .broken("if (k == NONE) {\n            return all.unlikeCounts();",
                "if (k < 0) {\n            return all.unlikeCounts();");
        s.of(18, "or for others.", due -> {
            TwinOrders x = five();
            for (int what : new int[] {-1, 3, Integer.MIN_VALUE, Integer.MAX_VALUE}) {
                due.is("bucket(0, " + what + ")", x.bucket(0, what), -1);
            }
        })
            .broken("case 2: return all.weightsOf(shared);\n            default: return NONE;",
                "case 2: return all.weightsOf(shared);\n            default: return 0;")
            .broken("case 2: return all.weightsOf(shared);", "case 2: case 3: return all.weightsOf(shared);");
    }

    /** CAME 1, MISSED 2, CAME 4 by an act, REJECTED 1, CHANGED 1, REMOVED 4. */
    private static TwinOrders sixHeard() {
        TwinOrders x = new TwinOrders();
        x.listen(-1, 1, 0, 0, 0, 0);
        x.listen(5, 1, 0, 1, 2, 3);
        x.put(1, 0, 9, 0);
        x.get(2);
        x.put(1, 0, 50, 0);
        x.put(1, 0, 8, 0);
        x.remove(4);
        return x;
    }

    private static void heard(Sentences s) {
        s.of(20, "Of the k-th EVENT heard, the latest first: 0 kind, 1 KEY, 2 DEPTH", due -> {
            TwinOrders x = sixHeard();
            due.row("heard(k, 0)", k -> x.heard(k, 0), 4, 1, 6, 0, 5, 0);
            due.row("heard(k, 1)", k -> x.heard(k, 1), 4, 1, 1, 4, 2, 1);
            due.row("heard(k, 2)", k -> x.heard(k, 2), 0, 0, 0, 1, 0, 0);
        })
            .broken("return Math.floorMod(next - 1 - k, MOST_LOGGED);",
                "return Math.floorMod(next - size + k, MOST_LOGGED);")
            .broken("case 0: return log.kinds[at];", "case 0: return log.keys[at];")
            .broken("case 1: return log.keys[at];", "case 1: return log.kinds[at];")
            .broken("case 2: return log.depths[at];", "case 2: return log.hearers[at];");
        s.of(20, "3 WEIGHT of its ENTRY then", due -> {
            TwinOrders x = Make.store(10);
            x.put(1, 0, 9, 1);
            due.is("CAME", x.heard(0, 3), 9);
            x.put(1, 0, 7, 1);
            due.is("CHANGED, with its new WEIGHT", x.heard(0, 3), 7);
            due.is("CAME, as it was then", x.heard(1, 3), 9);
            x.tick(1);
            due.is("EXPIRED", x.heard(0, 3), 7);
            x.put(2, 0, 6, 0);
            x.put(3, 0, 5, 0);
            due.is("EVICTED", x.heard(1, 3), 6);
            x.remove(3);
            due.is("REMOVED", x.heard(0, 3), 5);
        }).broken("case 3: return log.weights[at];", "case 3: return log.weights[0];")
            .broken("tell(EVICTED, key, entries.values[slot], entries.weights[slot]);",
                "tell(EVICTED, key, entries.values[slot], 0);")
            .broken("entries.values[slot], entries.weights[slot]);\n            entries.drop(slot);\n        }\n\n"
                + "        /** Of an entry",
                "entries.values[slot], 0);\n            entries.drop(slot);\n        }\n\n        /** Of an entry");
        s.of(20, "(that told of REJECTED; 0 of MISSED)", due -> {
            TwinOrders x = Make.store(40, 1, 9);
            x.put(1, 0, 41, 0);
            due.is("REJECTED, one that is there", x.heard(0, 3), 41);
            x.put(2, 0, 99, 0);
            due.is("REJECTED", x.heard(0, 3), 99);
            x.get(2);
            due.is("MISSED", x.heard(0, 3), 0);
        }).broken("tell(REJECTED, key, 0, weight);", "tell(REJECTED, key, 0, 0);")
            .broken("tell(MISSED, key, 0, 0);", "tell(MISSED, key, 0, 1);")
            .broken("tell(REJECTED, key, 0, weight);",
                "tell(REJECTED, key, 0, slot == NONE ? weight : entries.weights[slot]);");
        s.of(20, "4 how many LISTENERS heard it.", due -> {
            TwinOrders x = sixHeard();
            due.row("heard(k, 4)", k -> x.heard(k, 4), 1, 1, 1, 1, 2, 1);
            TwinOrders y = new TwinOrders();
            y.get(1);
            due.is("none", y.heard(0, 4), 0);
            for (int n = 0; n < 8; n++) {
                y.listen(5, 1, 0, 0, 0, 0);
            }
            y.get(1);
            due.is("eight", y.heard(0, 4), 8);
            y.turn(3, false);
            y.get(1);
            due.is("those that are ON", y.heard(0, 4), 7);
            due.is("as it was then", y.heard(1, 4), 8);
        }).broken("case 4: return log.hearers[at];", "case 4: return now.listenerCount;")
            .broken("heardBy++;", "heardBy = 1;");
        s.of(20, "NONE when there is none such", due -> {
            TwinOrders x = sixHeard();
            for (int k : new int[] {-1, 6, 39, 40, Integer.MIN_VALUE, Integer.MAX_VALUE}) {
                for (int what = 0; what <= 4; what++) {
                    due.is("heard(" + k + ", " + what + ")", x.heard(k, what), -1);
                }
            }
            due.is("nothing heard", new TwinOrders().heard(0, 0), -1);
        })
            .broken("if (k < 0 || k >= size) {\n                return NONE;\n            }\n"
                + "            return Math.floorMod",
                "if (k < 0 || k >= MOST_LOGGED) {\n                return NONE;\n            }\n"
                + "            return Math.floorMod")
            .broken("if (k < 0 || k >= size) {\n                return NONE;\n            }\n"
                + "            return Math.floorMod",
                "if (k >= size) {\n                return NONE;\n            }\n            return Math.floorMod");
        s.of(20, "or for others.", due -> {
            TwinOrders x = sixHeard();
            for (int what : new int[] {-1, 5, Integer.MIN_VALUE, Integer.MAX_VALUE}) {
                due.is("heard(0, " + what + ")", x.heard(0, what), -1);
            }
        }).broken("case 4: return log.hearers[at];", "case 4: case 5: return log.hearers[at];")
            .broken("case 0: return log.kinds[at];", "case -1: case 0: return log.kinds[at];");
    }

    private static void request(Sentences s) {
        s.of(21, "The k-th REQUEST, the eldest first.", due -> {
            TwinOrders x = Make.asked(5, 9, 5);
            x.put(7, 0, 1, 0);
            due.first("request(k)", x::request, 5, 9, 5, 7);
        }).broken("now.requests.keys[k] : NONE", "now.requests.keys[now.requests.size - 1 - k] : NONE");
        s.of(21, "NONE when there is none such.", due -> {
            TwinOrders x = Make.asked(0, 0);
            for (int k : new int[] {-1, 2, 99, 100, Integer.MIN_VALUE, Integer.MAX_VALUE}) {
                due.is("request(" + k + ")", x.request(k), -1);
            }
            due.is("nothing requested", new TwinOrders().request(0), -1);
        }).broken("within(k, 0, now.requests.size - 1)", "within(k, 0, MOST_REQUESTS - 1)")
            .broken("within(k, 0, now.requests.size - 1)", "k < now.requests.size");
    }

    private static void countOfStore(Sentences s) {
        s.of(43, "What there is: 0 ENTRIES, 1 LOAD, 2 CAP, 3 WAY, 4 BALANCE, 5 USES, 6 TICK, 7 AGING, 8 LISTENERS", due -> {
            TwinOrders x = Make.balanced(50, 6);
            x.way(3);
            x.aging(77);
            x.tick(11);
            x.listen(0, 1, 0, 0, 0, 0);
            x.put(1, 0, 20, 0);
            x.put(2, 0, 3, 0);
            due.first("count(what)", x::count, 2, 23, 50, 3, 6, 5, 11, 77, 1);
        }).broken("case 0: return store.entries.size;", "case 0: return store.entries.load;")
            .broken("case 1: return store.entries.load;", "case 1: return store.cap;")
            .broken("case 2: return store.cap;", "case 2: return 40;")
            .broken("case 4: return store.balance;", "case 4: return 0;")
            .broken("case 6: return now.ticks;", "case 6: return 0;");
        s.of(43, "15 REQUESTS, 16 WEIGHTS of PINNED ones, 17 how often COUNTS were halved, 18 how many went by WAY 2", due -> {
            TwinOrders x = Make.store(10, 1, 5, 2, 5);
            x.pin(2, true);
            x.way(2);
            x.aging(2);
            x.put(3, 0, 5, 0);
            x.put(4, 0, 5, 0);
            x.put(5, 0, 5, 0);
            x.get(3);
            due.first("count(15 and on)", k -> x.count(15 + k), 6, 5, 1, 3);
            x.way(0);
            x.put(6, 0, 5, 0);
            due.is("by WAY 2 alone", x.count(18), 3);
            due.is("halved", x.count(17), 2);
        }).broken("case 15: return now.requests.size;", "case 15: return MOST_REQUESTS;")
            .broken("case 16: return store.entries.pinnedLoad;", "case 16: return 0;")
            .broken("case 17: return store.entries.halvings;", "case 17: return 0;")
            .broken("case 18: return store.wentByTurns;", "case 18: return store.wentByTurns % 2;");
        s.of(43, "NONE for others.", due -> {
            TwinOrders x = Make.rich();
            for (int what : new int[] {-1, 20, 21, Integer.MIN_VALUE, Integer.MAX_VALUE}) {
                due.is("count(" + what + ")", x.count(what), -1);
            }
            due.isTrue("count(19)", x.count(19) > 0);
        })
            .broken("case 19: return now.deepest;\n            default: return NONE;",
                "case 19: return now.deepest;\n            default: return 0;")
            .broken("case 19: return now.deepest;", "case 19: case 20: return now.deepest;");
    }

    private static void countOfDoing(Sentences s) {
        s.of(43, "9 how many were there as got (by ACTS, too), 10 MISSED", due -> {
            TwinOrders x = Make.store(40, 1, 1);
            x.listen(5, 2, 0, 2, 1, 0);
            Make.getAll(x, 1, 1, 3);
            due.is("got", x.count(9), 2);
            due.is("MISSED", x.count(10), 1);
            x.get(0);
            due.is("got by an ACT", x.count(9), 3);
            due.is("MISSED", x.count(10), 2);
            x.get(6);
            due.is("MISSED by an ACT", x.count(10), 4);
            x.put(1, 0, 1, 0);
            due.is("put is not got", x.count(9), 3);
        }).broken("case 9: return store.got;", "case 9: return store.entries.uses;")
            .broken("case 10: return store.happened[MISSED];", "case 10: return now.log.howMany(MISSED) % 4;");
        s.of(43, "11 EVICTED, 12 EXPIRED, 13 REJECTED, 14 LOST", due -> {
            TwinOrders x = Make.store(10, 1, 10, 2, 10, 3, 10, 4, 11);
            x.put(5, 0, 99, 0);
            x.put(6, 0, 1, 1);
            x.tick(1);
            due.first("count(11 and on)", k -> x.count(11 + k), 3, 1, 2, 0);
            x.listen(5, 1, 0, 2, 1, 0);
            x.get(0);
            due.is("LOST", x.count(14), 1);
        }).broken("case 11: return store.happened[EVICTED];", "case 11: return store.happened[EXPIRED];")
            .broken("case 12: return store.happened[EXPIRED];", "case 12: return store.happened[REMOVED];")
            .broken("case 13: return store.happened[REJECTED];", "case 13: return store.happened[EXPIRED];")
            .broken("case 14: return now.lost;", "case 14: return 0;");
        s.of(43, "19 the greatest DEPTH heard so far.", due -> {
            TwinOrders x = Make.store(40, 3, 1);
            due.is("none but by calls", x.count(19), 0);
            x.listen(5, 1, 0, 2, 1, 0);
            x.get(0);
            due.is("0, 1, 2 MISSED", x.count(19), 2);
            x.get(2);
            due.is("so far", x.count(19), 2);
            x.get(4);
            due.is("99, the hundredth", x.count(19), 99);
        }).broken("deepest = Math.max(deepest, depth);", "deepest = depth;")
            .broken("deepest = Math.max(deepest, depth);", "deepest = Math.max(deepest, depth + 1);");
    }
}
