/** Terms I: evicting by the ways, ghosts and the balance. */
final class EvictSentences {
    private EvictSentences() { }

    static void tell(Sentences s) {
        whoMayGo(s);
        ways(s);
        wayOfBalance(s);
        youngWeights(s);
        ghosts(s);
        balance(s);
        lessCap(s);
    }

    /** By use 2 3 1, by count 3 2 1, by weight 1 3 2. */
    private static TwinOrders three() {
        TwinOrders x = Make.store(40, 1, 9, 2, 3);
        Make.getAll(x, 2, 1, 1);
        x.put(3, 0, 5, 0);
        x.get(1);
        return x;
    }

    private static void whoMayGo(Sentences s) {
        s.of(6, "EVICTING: of the ENTRIES that are not PINNED", due -> {
            for (int way = 0; way <= 4; way++) {
                TwinOrders x = Make.store(30, 1, 10, 2, 10, 3, 10);
                x.way(way);
                x.pin(1, true);
                x.resize(29);
                due.row("WAY " + way + ", order(0, k)", k -> x.order(0, k), 1, 3);
            }
        }).broken("return !pinned[slot] && keys[slot] != spared;", "return keys[slot] != spared;");
        s.of(2, "(and not the one that is put) one by the WAY", due -> {
            for (int way = 0; way <= 4; way++) {
                TwinOrders x = Make.store(30, 1, 10, 2, 10, 3, 10);
                x.way(way);
                due.is("WAY " + way, x.put(1, 0, 15, 0), 0);
                due.row("WAY " + way + ", order(0, k)", k -> x.order(0, k), 3, 1);
            }
        }).broken("return !pinned[slot] && keys[slot] != spared;", "return !pinned[slot];");
    }

    private static void ways(Sentences s) {
        s.of(7, "WAY 0: the first by ORDER 0.", due -> {
            TwinOrders x = three();
            x.resize(16);
            due.row("order(0, k)", k -> x.order(0, k), 3, 1);
        })
            .broken("case WAY_USE:\n                    return entries.first(BY_USE, spared);",
                "case WAY_USE:\n                    return entries.first(BY_COUNT, spared);");
        s.of(7, "1: the first by ORDER 1.", due -> {
            TwinOrders x = three();
            x.way(1);
            x.resize(16);
            due.row("order(0, k)", k -> x.order(0, k), 2, 1);
        })
            .broken("case WAY_COUNT:\n                    return entries.first(BY_COUNT, spared);",
                "case WAY_COUNT:\n                    return entries.first(BY_USE, spared);");
        s.of(7, "2: as by 0 and 1 in turns (by 0, if an even number went by WAY 2 so far, else by 1).", due -> {
            TwinOrders x = three();
            x.way(2);
            x.resize(16);
            due.row("none went: by 0", k -> x.order(0, k), 3, 1);
            due.is("went by WAY 2", x.count(18), 1);
            x.put(2, 0, 2, 0);
            x.get(3);
            x.resize(15);
            due.row("one went: by 1", k -> x.order(0, k), 1, 3);
            due.is("went by WAY 2", x.count(18), 2);
            x.put(4, 0, 1, 0);
            x.resize(14);
            due.row("two went: by 0", k -> x.order(0, k), 3, 4);
            due.is("went by WAY 2", x.count(18), 3);
        }).broken("wentByTurns % 2 == 0 ? BY_USE : BY_COUNT", "wentByTurns % 2 == 1 ? BY_USE : BY_COUNT")
            .broken("wentByTurns % 2 == 0 ? BY_USE : BY_COUNT", "wentByTurns == 0 ? BY_USE : BY_COUNT")
            .broken("wentByTurns++;", "wentByTurns += 2;");
        s.of(7, "(by 0, if an even number went by WAY 2 so far, else by 1)", due -> {
            TwinOrders x = three();
            x.put(5, 0, 1, 0);
            x.way(2);
            x.resize(17);
            due.row("one went by WAY 2: 2", k -> x.order(0, k), 3, 1, 5);
            x.way(0);
            x.resize(14);
            due.row("one by WAY 0: 3", k -> x.order(0, k), 1, 5);
            due.is("of which WAY 2 knows nothing", x.count(18), 1);
            x.way(2);
            x.resize(9);
            due.row("so by 1 now: 5", k -> x.order(0, k), 1);
        }).broken("if (way == WAY_TURNS) {", "if (way >= WAY_USE) {")
            .broken("wentByTurns++;", "wentByTurns--;");
        s.of(7, "3: the greatest WEIGHT", due -> {
            TwinOrders x = three();
            x.way(3);
            x.resize(16);
            due.row("order(0, k)", k -> x.order(0, k), 2, 3);
        }).broken("weights[i] > weights[found]", "weights[i] < weights[found]");
        s.of(7, "of like ones the first by ORDER 0.", due -> {
            TwinOrders x = Make.store(40, 1, 9, 2, 9, 3, 5);
            x.way(3);
            x.get(1);
            x.resize(22);
            due.row("order(0, k)", k -> x.order(0, k), 3, 1);
            x.put(2, 0, 5, 0);
            x.remove(1);
            x.resize(9);
            due.row("order(0, k)", k -> x.order(0, k), 2);
            TwinOrders y = Make.store(40, 1, 9, 2, 9);
            y.way(3);
            y.resize(17);
            due.row("order(0, k)", k -> y.order(0, k), 2);
        })
            .broken("weights[i] == weights[found] && lasts[i] < lasts[found]",
                "weights[i] == weights[found] && lasts[i] > lasts[found]")
            .broken("weights[i] == weights[found] && lasts[i] < lasts[found]", "false")
            .broken("weights[i] == weights[found] && lasts[i] < lasts[found]", "weights[i] == weights[found]");
    }

    private static void wayOfBalance(Sentences s) {
        s.of(7, "4: YOUNG ones are those of COUNT 1, OLD ones the others (all ENTRIES)", due -> {
            TwinOrders x = Make.store(40, 1, 5, 2, 5, 3, 5);
            Make.getAll(x, 1, 2, 2);
            due.is("COUNT 1 alone is YOUNG", x.victim(4), 3);
            x.put(3, 0, 5, 0);
            due.is("of OLD ones alone the first by ORDER 0", x.victim(4), 1);
            x.aging(8);
            x.get(1);
            due.is("halved, 1, 2 and 3 are YOUNG again", x.victim(4), 2);
        }).broken("return counts[slot] == 1;", "return counts[slot] <= 2;");
        s.of(7, "if YOUNG ones' WEIGHTS together are above BALANCE, the first YOUNG one by ORDER 0, else the first "
            + "OLD one", due -> {
            TwinOrders x = Make.balanced(40, 6);
            due.is("BALANCE", x.count(4), 6);
            x.put(8, 0, 1, 0);
            x.put(1, 0, 3, 0);
            x.put(2, 0, 3, 0);
            x.put(3, 0, 4, 0);
            x.put(4, 0, 4, 0);
            Make.getAll(x, 4, 3);
            x.remove(8);
            due.is("YOUNG ones weigh 6: the first OLD one", x.victim(4), 4);
            x.get(4);
            due.is("the first OLD one by ORDER 0", x.victim(4), 3);
            x.put(5, 0, 1, 0);
            due.is("YOUNG ones weigh 7: the first YOUNG one", x.victim(4), 1);
            x.remove(1);
            due.is("YOUNG ones weigh 4", x.victim(4), 3);
        }).broken("entries.youngLoad() > balance", "entries.youngLoad() >= balance")
            .broken("entries.youngLoad() > balance", "entries.youngLoad() > balance + 1")
            .broken("found == NONE || lasts[i] < lasts[found]", "found == NONE || lasts[i] > lasts[found]")
            .broken("found == NONE || lasts[i] < lasts[found]", "found == NONE")
            .broken("isYoung(i) == young", "isYoung(i) != young")
            .broken("return weightsOf(1);", "return weightsOf(2);");
        s.of(7, "if there is none such, the first of the other ones.", due -> {
            TwinOrders x = Make.balanced(40, 6);
            x.put(1, 0, 3, 0);
            x.put(2, 0, 3, 0);
            due.is("no OLD one: the first YOUNG one", x.victim(4), 1);
            x.get(1);
            x.put(3, 0, 9, 0);
            x.pin(2, true);
            x.pin(3, true);
            due.is("no YOUNG one that may go: the first OLD one", x.victim(4), 1);
            x.pin(1, true);
            due.is("none at all", x.victim(4), -1);
        }).broken("found != NONE ? found : entries.firstOfAge(!youngFirst, spared)", "found");
    }

    private static void youngWeights(Sentences s) {
        s.of(7, "YOUNG ones' WEIGHTS are those of all that are there, PINNED ones", due -> {
            TwinOrders x = Make.balanced(40, 6);
            x.put(1, 0, 6, 0);
            x.put(2, 0, 1, 0);
            x.put(3, 0, 5, 0);
            x.get(3);
            x.pin(1, true);
            due.is("7, one of them PINNED, are above 6", x.victim(4), 2);
        }).broken("return weightsOf(1);", "return weightsOf(1) - pinnedLoad;");
        s.of(2, "and the one that is put (if it is there, with its new WEIGHT) among them.", due -> {
            TwinOrders x = Make.balanced(40, 20);
            x.way(4);
            x.put(1, 0, 10, 0);
            x.get(1);
            x.put(2, 0, 1, 0);
            x.put(3, 0, 19, 0);
            x.put(3, 0, 30, 0);
            // YOUNG are 2 and 3, which weigh 31 then, above 20: 2 goes; with 20 or 1 it would be 1, the OLD one.
            due.row("order(0, k)", k -> x.order(0, k), 1, 3);
            TwinOrders y = Make.balanced(40, 20);
            y.way(4);
            y.put(1, 0, 10, 0);
            y.get(1);
            y.put(2, 0, 20, 0);
            y.put(3, 0, 20, 0);
            // The new one is not there yet: 20 are not above 20, so the OLD one went.
            due.row("order(0, k)", k -> y.order(0, k), 2, 3);
        })
            .broken("entries.youngLoad() > balance",
                "entries.youngLoad() - (entries.find(spared) != NONE && entries.isYoung(entries.find(spared)) ? "
                + "entries.weights[entries.find(spared)] : 0) > balance")
            .broken("entries.youngLoad() > balance",
                "entries.youngLoad() + (spared != NONE && entries.find(spared) == NONE ? 1 : 0) > balance")
            .broken("entries.change(slot, value, weight, till);\n"
                + "                for (int i = 0; i < MOST_ENTRIES && entries.load > cap; i++) {",
                "int was = entries.weights[slot];\n"
                + "                for (int i = 0; i < MOST_ENTRIES && entries.load + weight - was > cap; i++) {",
                "entries.use(entries.find(key));",
                "entries.change(entries.find(key), value, weight, till);\n            entries.use(entries.find(key));");
        s.of(20, "CAME, CHANGED come behind all that are EVICTED for it", due -> {
            TwinOrders x = Make.store(30, 1, 10, 2, 10, 3, 10);
            x.put(4, 0, 20, 0);
            due.first("KEYS, CAME", k -> x.heard(k, 1), 4, 2, 1);
            due.first("kinds", k -> x.heard(k, 0), 0, 2, 2);
            x.put(4, 0, 30, 0);
            due.first("KEYS, CHANGED", k -> x.heard(k, 1), 4, 3);
            due.first("kinds", k -> x.heard(k, 0), 1, 2);
        })
            .broken("heedGhost(key, weight);\n            if",
                "heedGhost(key, weight);\n            tell(slot == NONE ? CAME : CHANGED, key, value, weight);\n"
                + "            if",
                "entries.use(entries.find(key));\n"
                + "            tell(slot == NONE ? CAME : CHANGED, key, value, weight);",
                "entries.use(entries.find(key));");
    }

    private static void ghosts(Sentences s) {
        s.of(17, "It is gone; its KEY becomes a GHOST, YOUNG or OLD (by its COUNT, whatever the WAY)", due -> {
            for (int way = 0; way <= 4; way++) {
                TwinOrders x = Make.store(20, 1, 10, 2, 10);
                x.way(way);
                x.get(2);
                x.resize(0);
                due.is("gone", x.count(0), 0);
                due.row("WAY " + way + ", YOUNG", k -> x.ghost(0, k), 1);
                due.row("WAY " + way + ", OLD", k -> x.ghost(1, k), 2);
            }
        }).broken("if (entries.isYoung(slot)) {", "if (!entries.isYoung(slot)) {")
            .broken("if (entries.isYoung(slot)) {", "if (way != WAY_BALANCE || entries.isYoung(slot)) {");
        s.of(17, "of each sort the latest 16 are kept", due -> {
            TwinOrders x = Make.many(34);
            for (int key = 17; key < 34; key++) {
                x.get(key);
            }
            x.resize(18);
            due.is("16 YOUNG ones, the eldest", x.ghost(0, 15), 0);
            x.resize(17);
            due.is("of 17 the eldest went", x.ghost(0, 15), 1);
            due.is("16", x.ghost(0, 16), -1);
            x.resize(1);
            due.is("16 OLD ones, the eldest", x.ghost(1, 15), 17);
            x.resize(0);
            due.is("of 17 the eldest went", x.ghost(1, 15), 18);
            due.is("16", x.ghost(1, 16), -1);
            due.is("YOUNG ones as they were", x.ghost(0, 15), 1);
        }).broken("MOST_GHOSTS = 16", "MOST_GHOSTS = 15")
            .broken("MOST_GHOSTS = 16", "MOST_GHOSTS = 17");
        s.of(17, "(an elder one of that KEY of either sort goes)", due -> {
            TwinOrders x = Make.store(10, 1, 10, 2, 10, 1, 10, 2, 10);
            due.row("YOUNG twice, once here", k -> x.ghost(0, k), 1);
            x.put(1, 0, 10, 0);
            x.get(1);
            x.put(3, 0, 10, 0);
            due.row("YOUNG, no more", k -> x.ghost(0, k), 2);
            due.row("OLD now", k -> x.ghost(1, k), 1);
        })
            .broken("young.forget(key);\n            old.forget(key);\n",
                "",
                "if (young.forget(key)) {\n",
                "if (young.forget(key)) {\n                young.add(key);\n");
    }

    private static void balance(Sentences s) {
        s.of(2, "Else, if its KEY is a GHOST", due -> {
            TwinOrders x = Make.store(10, 1, 10, 2, 10);
            x.pin(2, true);
            due.is("REJECTED", x.put(1, 0, 5, 0), -1);
            due.is("BALANCE as it was", x.count(4), 0);
            due.is("still a GHOST", x.ghost(0, 0), 1);
            x.pin(2, false);
            x.get(1);
            due.is("to GET it is no PUT", x.ghost(0, 0), 1);
            x.put(7, 0, 5, 0);
            due.is("of no GHOST BALANCE is as it was", x.count(4), 0);
        })
            .broken("if (rejects(slot, weight)) {\n                tell(REJECTED",
                "heedGhost(key, weight);\n            if (rejects(slot, weight)) {\n                tell(REJECTED");
        s.of(2, "of a YOUNG one BALANCE is WEIGHT more, of an OLD one less", due -> {
            TwinOrders x = Make.store(10, 1, 10, 2, 10);
            x.put(1, 0, 7, 0);
            due.is("the WEIGHT told now more", x.count(4), 7);
            x.get(1);
            x.put(3, 0, 10, 0);
            due.is("an OLD one", x.ghost(1, 0), 1);
            x.put(1, 0, 2, 0);
            due.is("less", x.count(4), 5);
        }).broken("Math.min(balance + weight, cap)", "Math.min(balance + 1, cap)")
            .broken("Math.max(balance - weight, 0)", "Math.max(balance + weight, 0)")
            .broken("Math.max(balance - weight, 0)", "Math.max(balance - 1, 0)");
        s.of(2, "(0 .. CAP: the nearest)", due -> {
            int[][] young = {{3, 9}, {4, 10}, {5, 10}, {10, 10}};
            for (int[] a : young) {
                TwinOrders x = Make.store(10, 1, 10, 2, 10, 1, 6, 3, 10);
                x.put(1, 0, a[0], 0);
                due.is("6, of a YOUNG one " + a[0] + " more", x.count(4), a[1]);
                x.put(3, 0, 1, 0);
                due.is("one more", x.count(4), 10);
            }
            int[][] old = {{5, 1}, {6, 0}, {7, 0}, {10, 0}};
            for (int[] a : old) {
                TwinOrders x = Make.store(10, 1, 10, 2, 10, 1, 6);
                x.get(1);
                x.put(3, 0, 10, 0);
                x.put(1, 0, a[0], 0);
                due.is("6, of an OLD one " + a[0] + " less", x.count(4), a[1]);
            }
        }).broken("Math.min(balance + weight, cap)", "balance + weight")
            .broken("Math.max(balance - weight, 0)", "balance - weight")
            .broken("Math.min(balance + weight, cap)", "(balance + weight > cap ? balance : balance + weight)")
            .broken("Math.max(balance - weight, 0)", "(balance < weight ? balance : balance - weight)");
        s.of(17, "it is no GHOST any more.", due -> {
            TwinOrders x = Make.store(20, 1, 20, 2, 20, 3, 20);
            x.get(3);
            x.put(4, 0, 20, 0);
            x.put(1, 0, 5, 0);
            due.row("YOUNG", k -> x.ghost(0, k), 4, 2);
            x.put(3, 0, 5, 0);
            due.row("OLD", k -> x.ghost(1, k));
            TwinOrders y = Make.store(10, 1, 10, 2, 10, 3, 10, 4, 10, 2, 10);
            due.row("2, of the midst", k -> y.ghost(0, k), 4, 3, 1);
            y.put(4, 0, 10, 0);
            due.row("4, the first", k -> y.ghost(0, k), 2, 3, 1);
        }).broken("if (young.forget(key)) {\n", "if (young.forget(key)) {\n                young.add(key);\n")
            .broken("} else if (old.forget(key)) {\n",
                "} else if (old.forget(key)) {\n                old.add(key);\n")
            .broken("keys[left] = keys[i];\n", "");
        s.of(1, "WAY 0 at first, BALANCE 0", due -> {
            TwinOrders x = new TwinOrders();
            due.is("WAY", x.count(3), 0);
            due.is("BALANCE", x.count(4), 0);
        }).broken("int cap = 40;\n        int way = WAY_USE;", "int cap = 40;\n        int way = WAY_COUNT;")
            .broken("int balance;", "int balance = 1;");
    }

    private static void lessCap(Sentences s) {
        s.of(6, "(0 .. CAP: the nearest, also as CAP gets less", due -> {
            TwinOrders x = Make.balanced(40, 12);
            x.resize(12);
            due.is("as much as CAP", x.count(4), 12);
            x.resize(11);
            due.is("CAP is less", x.count(4), 11);
            x.resize(30);
            due.is("as CAP gets more it stays", x.count(4), 11);
            x.resize(0);
            due.is("CAP 0", x.count(4), 0);
            x = Make.balanced(40, 12);
            x.listen(5, 1, 0, 6, -30, 0);
            x.get(1);
            due.is("less by an ACT, too", x.count(4), 10);
        }).broken("balance = Math.min(balance, cap);", "")
            .broken("balance = Math.min(balance, cap);", "balance = cap;");
        s.of(6, "ahead of what is EVICTED then)", due -> {
            TwinOrders x = Make.balanced(40, 10);
            x.way(4);
            x.put(1, 0, 10, 0);
            x.put(2, 0, 2, 0);
            x.get(2);
            // BALANCE is 9 first: the YOUNG weigh 10, above 9, so 1 goes; by 10 it would be 2.
            due.is("one goes", x.resize(9), 1);
            due.row("order(0, k)", k -> x.order(0, k), 2);
        })
            .broken("balance = Math.min(balance, cap);\n",
                "",
                "return happened[EVICTED] - before;",
                "balance = Math.min(balance, cap);\n            return happened[EVICTED] - before;");
    }
}
