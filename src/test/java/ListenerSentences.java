/** Promises 19 and 27 to 29: of a listener, whom it wakes, rings, and what a put would stir. */
final class ListenerSentences {
    private static final int[] NONE_SUCH = {-1, 2, 7, 8, Integer.MIN_VALUE, Integer.MAX_VALUE};

    private ListenerSentences() { }

    static void tell(Sentences s) {
        listener(s);
        didSomething(s);
        wakes(s);
        wakesByAct(s);
        ring(s);
        stir(s);
        stirNone(s);
    }

    private static TwinOrders listening(int kind, int m, int r, int act, int d, int w) {
        TwinOrders x = new TwinOrders();
        x.listen(kind, m, r, act, d, w);
        return x;
    }

    private static void listener(Sentences s) {
        s.of(19, "Of a LISTENER: 0 ON (1, 0), 1 how many EVENTS it heard", due -> {
            TwinOrders x = listening(5, 2, 0, 0, 0, 0);
            x.listen(-1, 1, 0, 0, 0, 0);
            due.is("ON", x.listener(0, 0), 1);
            due.is("heard nothing yet", x.listener(0, 1), 0);
            Make.getAll(x, 2, 3, 4);
            due.is("of two KEYS", x.listener(0, 1), 2);
            due.is("of all", x.listener(1, 1), 3);
            x.turn(0, false);
            due.is("not ON", x.listener(0, 0), 0);
            x.get(2);
            due.is("not ON it hears nothing", x.listener(0, 1), 2);
            due.is("ON", x.listener(1, 0), 1);
        }).broken("case 0: return asInt(one.on);", "case 0: return asInt(!one.on);")
            .broken("one.heardSoFar++;", "one.heardSoFar = 1;")
            .broken("case 1: return one.heardSoFar;", "case 1: return one.didSoFar;");
        s.of(19, "NONE when there is none such", due -> {
            TwinOrders x = listening(5, 1, 0, 0, 0, 0);
            x.listen(5, 1, 0, 0, 0, 0);
            for (int n : NONE_SUCH) {
                for (int what = 0; what <= 2; what++) {
                    due.is("listener(" + n + ", " + what + ")", x.listener(n, what), -1);
                }
            }
            due.is("none there", new TwinOrders().listener(0, 0), -1);
        }).broken("number >= 0 && number < listenerCount", "number >= 0 && number < MOST_LISTENERS");
        s.of(19, "or for others.", due -> {
            TwinOrders x = listening(5, 1, 0, 0, 0, 0);
            for (int what : new int[] {-1, 3, Integer.MIN_VALUE, Integer.MAX_VALUE}) {
                due.is("listener(0, " + what + ")", x.listener(0, what), -1);
            }
        }).broken("case 2: return one.didSoFar;", "case 2: case 3: return one.didSoFar;")
            .broken("case 2: return one.didSoFar;\n            default: return NONE;",
                "case 2: return one.didSoFar;\n            default: return 0;");
    }

    private static void didSomething(Sentences s) {
        s.of(19, "2 how often its ACT did something (1: not REJECTED", due -> {
            TwinOrders x = listening(5, 1, 0, 1, 1, 20);
            x.get(1);
            due.is("CAME", x.listener(0, 2), 1);
            x.get(1);
            due.is("CHANGED", x.listener(0, 2), 2);
            x.resize(19);
            x.get(1);
            due.is("REJECTED", x.listener(0, 2), 2);
            due.is("heard", x.listener(0, 1), 3);
        })
            .broken("return store.bring(key, value, one.weight, NONE) != NONE;",
                "return store.bring(key, value, one.weight, NONE) == 1;")
            .broken("return store.bring(key, value, one.weight, NONE) != NONE;",
                "store.bring(key, value, one.weight, NONE);\n                    return true;");
        s.of(19, "2: not MISSED", due -> {
            TwinOrders x = listening(4, 1, 0, 2, 1, 0);
            x.put(1, 0, 1, 0);
            x.put(3, 0, 1, 0);
            x.put(4, 0, 1, 0);
            x.remove(1);
            due.is("MISSED", x.listener(0, 2), 0);
            x.remove(3);
            due.is("there", x.listener(0, 2), 1);
            due.is("heard", x.listener(0, 1), 2);
        }).broken("return store.fetch(key) == 1;", "store.fetch(key);\n                    return true;");
        s.of(19, "3 .. 5: not refused, and another", due -> {
            TwinOrders removes = listening(5, 1, 0, 3, 1, 0);
            removes.put(2, 0, 1, 0);
            removes.get(1);
            due.is("removed", removes.listener(0, 2), 1);
            removes.get(1);
            due.is("refused", removes.listener(0, 2), 1);
            TwinOrders pins = listening(5, 1, 0, 4, 1, 0);
            pins.put(2, 0, 1, 0);
            pins.get(1);
            due.is("pinned", pins.listener(0, 2), 1);
            pins.get(1);
            due.is("not another", pins.listener(0, 2), 1);
            pins.get(5);
            due.is("refused", pins.listener(0, 2), 1);
            TwinOrders unpins = listening(5, 1, 0, 5, 1, 0);
            unpins.put(2, 0, 1, 0);
            unpins.get(1);
            due.is("not another", unpins.listener(0, 2), 0);
            unpins.pin(2, true);
            unpins.get(1);
            due.is("unpinned", unpins.listener(0, 2), 1);
            Make.getAll(unpins, 1, 5);
            due.is("not another, refused", unpins.listener(0, 2), 1);
        })
            .broken("return store.takeOut(key) != BAD_STANDING;",
                "store.takeOut(key);\n                    return true;")
            .broken("return store.fasten(key, true) == 1;", "return store.fasten(key, true) >= 0;")
            .broken("return store.fasten(key, true) == 1;", "return store.fasten(key, true) == 0;")
            .broken("return store.fasten(key, false) == 1;", "return store.fasten(key, false) >= 0;")
            .broken("return store.fasten(key, true) == 1;", "return store.fasten(key, true) != 0;");
        s.of(19, "6: CAP is another).", due -> {
            TwinOrders x = listening(5, 3, 0, 6, 10, 0);
            x.listen(5, 3, 1, 6, 0, 0);
            x.listen(5, 3, 2, 6, -999, 0);
            x.get(3);
            due.is("more", x.listener(0, 2), 1);
            x.get(1);
            due.is("0 more is no other", x.listener(1, 2), 0);
            x.get(2);
            due.is("refused", x.listener(2, 2), 0);
            x.resize(4995);
            x.get(3);
            due.is("refused", x.listener(0, 2), 1);
            due.is("heard", x.listener(1, 1), 1);
        }).broken(">= 0 && one.shift != 0", ">= 0")
            .broken("return store.recap(store.cap + one.shift) >= 0 &&",
                "store.recap(store.cap + one.shift);\n                    return");
    }

    private static void wakes(Sentences s) {
        s.of(27, "Whether a LISTENER WAKES another one (or itself; ON or not)", due -> {
            TwinOrders x = listening(4, 1, 0, 2, 0, 0);
            x.listen(5, 1, 0, 3, 0, 0);
            x.listen(5, 1, 0, 2, 0, 0);
            due.is("REMOVED is got, so MISSED", x.wakes(0, 1), 1);
            due.is("MISSED is removed", x.wakes(1, 0), 1);
            due.is("REMOVED is got, so MISSED", x.wakes(0, 2), 1);
            due.is("not the other way about", x.wakes(2, 0), 0);
            due.is("itself not", x.wakes(0, 0), 0);
            due.is("itself", x.wakes(2, 2), 1);
            x.turn(0, false);
            x.turn(1, false);
            due.is("neither is ON", x.wakes(0, 1), 1);
        })
            .broken("boolean rouses(Listener other) {",
                "boolean rouses(Listener other) {\n            if (!on || !other.on) {\n"
                + "                return false;\n            }")
            .broken("return asInt(one.rouses(another));", "return asInt(listener != other && one.rouses(another));")
            .broken("return asInt(one.rouses(another));", "return asInt(another.rouses(one));");
        s.of(27, "its ACT can, for some KEY of which it hears any EVENT, make an EVENT that the other one hears", due -> {
            TwinOrders x = listening(5, 6, 1, 2, 0, 0);
            x.listen(5, 4, 3, 0, 0, 0);
            x.listen(5, 4, 2, 0, 0, 0);
            x.listen(5, 8, 7, 0, 0, 0);
            due.is("1 by 6 and 3 by 4: 7", x.wakes(0, 1), 1);
            due.is("1 by 6 is odd, 2 by 4 even", x.wakes(0, 2), 0);
            due.is("1 by 6 and 7 by 8: 7", x.wakes(0, 3), 1);
            TwinOrders y = listening(5, 7, 6, 2, 1, 0);
            y.listen(5, 7, 0, 0, 0, 0);
            y.listen(5, 7, 1, 0, 0, 0);
            due.is("6 by 7 and 1", y.wakes(0, 1), 1);
            due.is("no KEY turns from 999 to 0: 999 leaves 5 by 7", y.wakes(0, 2), 0);
            TwinOrders z = listening(5, 7, 5, 2, 1, 0);
            z.listen(5, 7, 0, 0, 0, 0);
            z.listen(5, 9, 0, 2, 1, 0);
            due.is("999 leaves 5 by 7, and 1 is 0", z.wakes(0, 1), 1);
            due.is("999 leaves 0 by 9, and 1 is 0", z.wakes(2, 2), 1);
            due.is("0 by 9 less 1: 0 alone comes to 0 by 9, as 999", listening(5, 9, 0, 2, -1, 0).wakes(0, 0), 1);
            due.is("1 by 9 less 1 never comes to 1 by 9", listening(5, 9, 1, 2, -1, 0).wakes(0, 0), 0);
        })
            .broken("for (int key = 0; key < KEYS; key++) {\n                if (hearsKey(key)",
                "for (int key = 0; key < KEYS - 1; key++) {\n                if (hearsKey(key)")
            .broken("for (int key = 0; key < KEYS; key++) {\n                if (hearsKey(key)",
                "for (int key = 1; key < KEYS; key++) {\n                if (hearsKey(key)")
            .broken("hearsKey(key) && other.hearsKey(keyFor(key))", "other.hearsKey(keyFor(key))")
            .broken("hearsKey(key) && other.hearsKey(keyFor(key))", "hearsKey(key) && other.hearsKey(key)");
        s.of(27, "NONE when there are none such.", due -> {
            TwinOrders x = listening(5, 1, 0, 2, 0, 0);
            x.listen(5, 1, 0, 2, 0, 0);
            for (int n : NONE_SUCH) {
                due.is("wakes(" + n + ", 0)", x.wakes(n, 0), -1);
                due.is("wakes(0, " + n + ")", x.wakes(0, n), -1);
            }
            due.is("none there", new TwinOrders().wakes(0, 0), -1);
        })
            .broken("if (one == null || another == null) {\n            return NONE;",
                "if (one == null || another == null) {\n            return 0;");
    }

    /** Whether a listener with an ACT wakes listeners of the seven kinds, then of all; all of any KEY. */
    private static void wakesKinds(Due due, int act, int d, int... wants) {
        for (int kind = 0; kind <= 6; kind++) {
            TwinOrders x = listening(3, 2, 0, act, d, 1);
            x.listen(kind, 1, 0, 0, 0, 0);
            due.is("ACT " + act + ", kind " + kind, x.wakes(0, 1), wants[kind]);
        }
        TwinOrders x = listening(3, 2, 0, act, d, 1);
        x.listen(-1, 1, 0, 0, 0, 0);
        due.is("ACT " + act + ", all kinds", x.wakes(0, 1), wants[7]);
    }

    /** Whether one that acts on even KEYS with an even d wakes one that hears odd KEYS, of a kind. */
    private static int wakesOdd(int act, int d, int kind) {
        TwinOrders x = listening(3, 2, 0, act, d, 1);
        x.listen(kind, 2, 1, 0, 0, 0);
        return x.wakes(0, 1);
    }

    private static void wakesByAct(Sentences s) {
        s.of(27, "ACT 1 CAME, CHANGED, REJECTED of the KEY and d, EVICTED of any KEY", due -> {
            wakesKinds(due, 1, 4, 1, 1, 1, 0, 0, 0, 1, 1);
            due.is("CAME of odd KEYS", wakesOdd(1, 4, 0), 0);
            due.is("CHANGED of odd KEYS", wakesOdd(1, 4, 1), 0);
            due.is("REJECTED of odd KEYS", wakesOdd(1, 4, 6), 0);
            due.is("CAME of odd KEYS, d 3", wakesOdd(1, 3, 0), 1);
            due.is("EVICTED of odd KEYS", wakesOdd(1, 4, 2), 1);
            due.is("all of odd KEYS: EVICTED", wakesOdd(1, 4, -1), 1);
        }).broken("return other.hearsKind(CAME) || other.hearsKind(CHANGED)", "return other.hearsKind(CHANGED)")
            .broken("return other.hearsKind(CAME) || other.hearsKind(CHANGED)", "return other.hearsKind(CAME)")
            .broken("|| other.hearsKind(REJECTED);", ";")
            .broken("boolean evicts = act == ACT_PUT || ", "boolean evicts = ")
            .broken("evicts && other.hearsKind(EVICTED)", "evicts && other.hearsKind(EVICTED) && other.divisor == 1");
        s.of(27, "2 MISSED, 3 REMOVED of the KEY and d", due -> {
            wakesKinds(due, 2, 4, 0, 0, 0, 0, 0, 1, 0, 1);
            wakesKinds(due, 3, 4, 0, 0, 0, 0, 1, 0, 0, 1);
            due.is("MISSED of odd KEYS", wakesOdd(2, 4, 5), 0);
            due.is("REMOVED of odd KEYS", wakesOdd(3, 4, 4), 0);
            due.is("all of odd KEYS", wakesOdd(2, 4, -1), 0);
            due.is("MISSED of odd KEYS, d -3", wakesOdd(2, -3, 5), 1);
        }).broken("return other.hearsKind(MISSED);", "return true;")
            .broken("return other.hearsKind(REMOVED);", "return other.hearsKind(MISSED);");
        s.of(27, "6 with d below 0 EVICTED of any KEY", due -> {
            wakesKinds(due, 6, -1, 0, 0, 1, 0, 0, 0, 0, 1);
            wakesKinds(due, 6, 0, 0, 0, 0, 0, 0, 0, 0, 0);
            wakesKinds(due, 6, 1, 0, 0, 0, 0, 0, 0, 0, 0);
            due.is("of odd KEYS", wakesOdd(6, -1, 2), 1);
        }).broken("act == ACT_CAP && shift < 0", "act == ACT_CAP && shift <= 0")
            .broken("act == ACT_CAP && shift < 0", "act == ACT_CAP && shift < -1")
            .broken("act == ACT_CAP && shift < 0", "act == ACT_CAP");
        s.of(27, "others none: 1, 0.", due -> {
            for (int act : new int[] {0, 4, 5}) {
                wakesKinds(due, act, -1, 0, 0, 0, 0, 0, 0, 0, 0);
            }
        })
            .broken("case ACT_GET:\n                    return other",
                "case 0:\n                case ACT_GET:\n                    return other")
            .broken("case ACT_GET:\n                    return other",
                "case ACT_PIN:\n                case ACT_GET:\n                    return other")
            .broken("(act == ACT_CAP && shift < 0)", "(act >= ACT_UNPIN && shift < 0)");
    }

    private static void ring(Sentences s) {
        s.of(28, "By how many steps, each from a LISTENER to one that it WAKES, one comes from a LISTENER back to it, "
            + "the fewest (0: never).", due -> {
            TwinOrders x = listening(5, 1, 0, 3, 0, 0);
            x.listen(4, 1, 0, 1, 0, 1);
            x.listen(0, 1, 0, 2, 0, 0);
            x.listen(3, 1, 0, 2, 0, 0);
            x.listen(2, 1, 0, 6, -1, 0);
            x.listen(6, 1, 0, 0, 0, 0);
            due.row("ring(n)", x::ring, 3, 3, 3, 0, 1, 0);
            x.turn(1, false);
            due.is("ON or not", x.ring(0), 3);
            x.listen(5, 1, 0, 1, 0, 1);
            due.is("a nearer way, CAME and MISSED", x.ring(2), 2);
            due.is("the fewest", x.ring(6), 2);
            due.is("no nearer way", x.ring(0), 3);
            TwinOrders eight = new TwinOrders();
            for (int n = 0; n < 8; n++) {
                eight.listen(5, 8, n, 2, 1, 0);
            }
            due.row("all eight", eight::ring, 8, 8, 8, 8, 8, 8, 8, 8);
        })
            .broken("for (int steps = 1; steps <= MOST_LISTENERS; steps++) {",
                "for (int steps = 1; steps < MOST_LISTENERS; steps++) {")
            .broken("return steps;", "return steps - 1;")
            .broken("return steps;\n                }\n", "return Math.max(2, steps);\n                }\n")
            .broken("edge = woken & ~seen;", "edge = woken & (woken - 1);");
        s.of(28, "NONE when there is none such.", due -> {
            TwinOrders x = listening(5, 1, 0, 2, 0, 0);
            x.listen(5, 1, 0, 2, 0, 0);
            for (int n : NONE_SUCH) {
                due.is("ring(" + n + ")", x.ring(n), -1);
            }
            due.is("none there", new TwinOrders().ring(0), -1);
        })
            .broken("return now.listenerAt(listener) == null ? NONE : ",
                "return now.listenerAt(listener) == null ? 0 : ");
    }

    /** Cap 20: 1 and 2 of 10; what is EVICTED is got 100 on, and MISSED makes CAP 5 more. */
    private static TwinOrders stirred() {
        TwinOrders x = Make.store(20, 1, 10, 2, 10);
        x.listen(2, 1, 0, 2, 100, 0);
        x.listen(5, 1, 0, 6, 5, 0);
        return x;
    }

    private static void stir(Sentences s) {
        s.of(29, "On paper a PUT of a KEY (VALUE 0, lives 0) with a WEIGHT, as a call (REQUESTS aside), with all that "
            + "LISTENERS do", due -> {
            TwinOrders x = Make.rich();
            x.turn(4, true);
            String before = Make.all(x);
            x.keep(0);
            for (int key = 0; key < 60; key++) {
                int weight = 1 + key * 3 % 60;
                int heard = x.stir(key, weight, -1, 0);
                int lost = x.stir(key, weight, -1, 1);
                int entries = x.stir(key, weight, -1, 2);
                int last = x.stir(key, weight, heard - 1, 1);
                due.isTrue("nothing is done", before.equals(Make.all(x)));
                x.put(key, 0, weight, 0);
                due.is("ENTRIES, as by a call", x.count(0), entries);
                due.is("the last KEY heard, as by a call", x.heard(0, 1), last);
                int lostByCall = x.count(14);
                x.back(0);
                due.is("LOST, as by a call", lostByCall - x.count(14), lost);
            }
        })
            .broken("paper.callPut(key, 0, weight, 0);",
                "paper.store.waiting.open();\n        paper.store.bring(key, 0, weight, NONE);")
            .broken("paper.copyFrom(now);\n", "paper.store.copyFrom(now.store);\n")
            .broken("paper.callPut(key, 0, weight, 0);",
                "now.requests.add(key);\n        paper.callPut(key, 0, weight, 0);");
        s.of(29, "how many EVENTS would be heard (k NONE, what 0), how many LOST (k NONE, 1), how many ENTRIES there "
            + "would be (k NONE, 2)", due -> {
            TwinOrders x = stirred();
            due.is("heard: two EVICTED, CAME, two MISSED", x.stir(3, 20, -1, 0), 5);
            due.is("LOST", x.stir(3, 20, -1, 1), 0);
            due.is("ENTRIES", x.stir(3, 20, -1, 2), 1);
            due.is("one that is there", x.stir(1, 10, -1, 2), 2);
            TwinOrders chain = listening(0, 1, 0, 2, 1, 0);
            chain.listen(5, 1, 0, 2, 1, 0);
            due.is("100 heard", chain.stir(9, 1, -1, 0), 100);
            due.is("one LOST", chain.stir(9, 1, -1, 1), 1);
            chain.get(5);
            chain.get(5);
            due.is("those LOST before are aside", chain.stir(9, 1, -1, 1), 1);
            due.is("nothing is LOST by it", chain.count(14), 2);
        }).broken("case 0: return told.size;", "case 0: return told.size + told.lost;")
            .broken("case 1: return told.lost;", "case 1: return paper.lost;")
            .broken("default: return paper.store.entries.size;", "default: return now.store.entries.size;");
        s.of(29, "of the k-th EVENT heard, the first ahead, the kind (what 0), the KEY (1), DEPTH (2).", due -> {
            TwinOrders x = stirred();
            due.row("kinds", k -> x.stir(3, 20, k, 0), 2, 2, 0, 5, 5);
            due.row("KEYS", k -> x.stir(3, 20, k, 1), 1, 2, 3, 101, 102);
            due.row("DEPTH", k -> x.stir(3, 20, k, 2), 0, 0, 0, 1, 1);
            due.row("REJECTED", k -> x.stir(3, 21, k, 0), 6);
            due.row("CHANGED", k -> x.stir(2, 10, k, 0), 1);
            TwinOrders chain = listening(0, 1, 0, 2, 1, 0);
            chain.listen(5, 1, 0, 2, 1, 0);
            due.is("the hundredth", chain.stir(9, 1, 99, 1), 108);
            due.is("its DEPTH", chain.stir(9, 1, 99, 2), 99);
        }).broken("case 0: return told.kinds[k];", "case 0: return told.kinds[told.size - 1 - k];")
            .broken("case 1: return told.keys[k];", "case 1: return key;")
            .broken("default: return told.depths[k];", "default: return 0;");
    }

    private static void stirNone(Sentences s) {
        s.of(29, "NONE when KEY", due -> {
            TwinOrders x = stirred();
            for (int key : new int[] {-1, 1000, Integer.MIN_VALUE, Integer.MAX_VALUE}) {
                due.is("stir(" + key + ", 1, -1, 0)", x.stir(key, 1, -1, 0), -1);
                due.is("stir(" + key + ", 1, 0, 0)", x.stir(key, 1, 0, 0), -1);
            }
            due.is("KEY 0", x.stir(0, 1, 0, 0), 2);
            due.is("KEY 999", x.stir(999, 1, 0, 0), 2);
        }).broken("!isKey(key) || !isWeight(weight) || k < NONE", "!isWeight(weight) || k < NONE");
        s.of(29, "WEIGHT can't be", due -> {
            TwinOrders x = stirred();
            for (int weight : new int[] {0, -1, 100, Integer.MIN_VALUE, Integer.MAX_VALUE}) {
                due.is("stir(3, " + weight + ", -1, 0)", x.stir(3, weight, -1, 0), -1);
            }
            due.is("WEIGHT 99", x.stir(3, 99, -1, 0), 1);
            due.is("WEIGHT 1", x.stir(3, 1, -1, 0), 3);
        }).broken("!isKey(key) || !isWeight(weight) || k < NONE", "!isKey(key) || k < NONE");
        s.of(29, "there is none such", due -> {
            TwinOrders x = stirred();
            for (int k : new int[] {5, 6, 99, 100, -2, Integer.MIN_VALUE, Integer.MAX_VALUE}) {
                for (int what = 0; what <= 2; what++) {
                    due.is("stir(3, 20, " + k + ", " + what + ")", x.stir(3, 20, k, what), -1);
                }
            }
        }).broken("if (k >= told.size) {", "if (k > told.size) {")
            .broken("if (k >= told.size) {", "if (k >= MOST_HEARD) {")
            .broken("|| k < NONE ||",
                "||",
                "if (k == NONE) {\n            switch (what) {\n                case 0: return told.size;",
                "if (k < 0) {\n            switch (what) {\n                case 0: return told.size;");
        s.of(29, "or for others.", due -> {
            TwinOrders x = stirred();
            for (int what : new int[] {-1, 3, Integer.MIN_VALUE, Integer.MAX_VALUE}) {
                due.is("stir(3, 20, -1, " + what + ")", x.stir(3, 20, -1, what), -1);
                due.is("stir(3, 20, 0, " + what + ")", x.stir(3, 20, 0, what), -1);
            }
        }).broken("k < NONE || !within(what, 0, 2)", "k < NONE || !within(what, 0, 3)")
            .broken("k < NONE || !within(what, 0, 2)", "k < NONE || !within(what, -1, 2)");
    }
}
