import java.util.Arrays;

/** Terms I: the bounds of entries, uses and counts, the orders, to put and to get. */
final class EntrySentences {
    private EntrySentences() { }

    static void tell(Sentences s) {
        beginning(s);
        boundsOfEntries(s);
        boundsOfStore(s);
        uses(s);
        halving(s);
        orders(s);
        rejected(s);
        putting(s);
        getting(s);
    }

    private static void beginning(Sentences s) {
        s.of(43, "An object is used for at most 512 calls after it has been made", due -> {
            TwinOrders x = new TwinOrders();
            for (int i = 0; i < 511; i++) {
                x.get(i);
            }
            due.is("call 512", x.count(10), 511);
        }).broken("case 10: return store.happened[MISSED];", "case 10: return Math.min(510, store.happened[MISSED]);");
        s.of(1, "The constants: `NONE = -1`: There is none.", due -> due.is("NONE", constantNone(), -1))
            .broken("public static final int NONE = -1;", "public static final int NONE = -4;");
    }

    /** Read from the class as it is: the compiler writes a constant's number into those that use it. */
    private static int constantNone() {
        try {
            return TwinOrders.class.getField("NONE").getInt(null);
        } catch (ReflectiveOperationException e) {
            return Integer.MIN_VALUE;
        }
    }

    private static void boundsOfEntries(Sentences s) {
        s.of(2, "ENTRIES (60 at most)", due -> {
            TwinOrders x = Make.many(60);
            due.is("entries", x.count(0), 60);
            due.is("evicted", x.count(11), 0);
            due.is("the 61st came", x.put(60, 0, 1, 0), 1);
            due.is("entries", x.count(0), 60);
            due.is("evicted", x.count(11), 1);
        }).broken("MOST_ENTRIES = 60", "MOST_ENTRIES = 61")
            .broken("MOST_ENTRIES = 60", "MOST_ENTRIES = 59");
        s.of(2, "have a KEY (0 .. 999)", due -> {
            TwinOrders x = new TwinOrders();
            due.is("put(0, ..)", x.put(0, 0, 1, 0), 1);
            due.is("put(999, ..)", x.put(999, 0, 1, 0), 1);
            due.is("put(-1, ..)", x.put(-1, 0, 1, 0), -2);
            due.is("put(1000, ..)", x.put(1000, 0, 1, 0), -2);
            for (int far : Make.FAR) {
                due.is("put(" + far + ", ..)", x.put(far, 0, 1, 0), -2);
            }
        }).broken("KEYS = 1000", "KEYS = 999")
            .broken("KEYS = 1000", "KEYS = 1001")
            .broken("within(key, 0, KEYS", "within(key, 1, KEYS")
            .broken("within(key, 0, KEYS", "within(key, -1, KEYS");
        s.of(2, "a VALUE (-9999 .. 9999)", due -> {
            TwinOrders x = new TwinOrders();
            due.is("put(1, -9999, ..)", x.put(1, -9999, 1, 0), 1);
            due.is("entry(1, 0)", x.entry(1, 0), -9999);
            due.is("put(1, 9999, ..)", x.put(1, 9999, 1, 0), 0);
            due.is("put(1, -10000, ..)", x.put(1, -10000, 1, 0), -2);
            due.is("put(1, 10000, ..)", x.put(1, 10000, 1, 0), -2);
            due.is("put(1, least, ..)", x.put(1, Integer.MIN_VALUE, 1, 0), -2);
            due.is("put(1, most, ..)", x.put(1, Integer.MAX_VALUE, 1, 0), -2);
            due.is("entry(1, 0)", x.entry(1, 0), 9999);
        }).broken("MOST_VALUE = 9999", "MOST_VALUE = 9998")
            .broken("MOST_VALUE = 9999", "MOST_VALUE = 10000")
            .broken("within(value, -MOST_VALUE,", "within(value, -MOST_VALUE - 1,");
        s.of(2, "a WEIGHT (1 .. 99)", due -> {
            TwinOrders x = Make.store(5000);
            due.is("put(1, 0, 1, 0)", x.put(1, 0, 1, 0), 1);
            due.is("put(2, 0, 99, 0)", x.put(2, 0, 99, 0), 1);
            due.is("put(3, 0, 0, 0)", x.put(3, 0, 0, 0), -2);
            due.is("put(3, 0, 100, 0)", x.put(3, 0, 100, 0), -2);
            for (int far : Make.FAR) {
                due.is("put(3, 0, " + far + ", 0)", x.put(3, 0, far, 0), -2);
            }
        }).broken("MOST_WEIGHT = 99", "MOST_WEIGHT = 98")
            .broken("MOST_WEIGHT = 99", "MOST_WEIGHT = 100")
            .broken("within(weight, 1,", "within(weight, 0,")
            .broken("within(weight, 1,", "within(weight, 2,");
        s.of(15, "a COUNT, LAST, TILL (a TICK, or NONE)", due -> {
            TwinOrders x = new TwinOrders();
            x.tick(7);
            x.put(1, 0, 1, 5);
            x.put(2, 0, 1, 0);
            due.is("a TICK", x.entry(1, 4), 12);
            due.is("NONE", x.entry(2, 4), -1);
        }).broken("lives == 0 ? NONE : ticks + lives", "ticks + lives")
            .broken("lives == 0 ? NONE : ticks + lives", "lives == 0 ? NONE : lives");
        s.of(15, "are PINNED or not.", due -> {
            TwinOrders x = Make.store(40, 1, 1, 2, 1);
            x.pin(2, true);
            due.is("not", x.entry(1, 5), 0);
            due.is("PINNED", x.entry(2, 5), 1);
        }).broken("asInt(all.pinned[slot])", "asInt(!all.pinned[slot])");
    }

    private static void boundsOfStore(Sentences s) {
        s.of(6, "CAP is 0 .. 5000 (40 at first)", due -> {
            TwinOrders x = new TwinOrders();
            due.is("at first", x.count(2), 40);
            due.is("resize(0)", x.resize(0), 0);
            due.is("cap", x.count(2), 0);
            due.is("resize(5000)", x.resize(5000), 0);
            due.is("resize(-1)", x.resize(-1), -2);
            due.is("resize(5001)", x.resize(5001), -2);
            due.is("cap", x.count(2), 5000);
        }).broken("int cap = 40", "int cap = 41")
            .broken("MOST_CAP = 5000", "MOST_CAP = 4999")
            .broken("MOST_CAP = 5000", "MOST_CAP = 5001")
            .broken("within(cap, 0, MOST_CAP)", "within(cap, 1, MOST_CAP)")
            .broken("within(cap, 0, MOST_CAP)", "within(cap, -1, MOST_CAP)");
        s.of(9, "TICK 0 at first", due -> {
            TwinOrders x = new TwinOrders();
            due.is("at first", x.count(6), 0);
            x.put(1, 0, 1, 1);
            due.is("one from now", x.entry(1, 4), 1);
        }).broken("int ticks;", "int ticks = 1;");
        s.of(8, "AGING 1 .. 999 (100 at first)", due -> {
            TwinOrders x = new TwinOrders();
            due.is("at first", x.count(7), 100);
            due.is("aging(1)", x.aging(1), 100);
            due.is("aging(999)", x.aging(999), 1);
            due.is("aging(0)", x.aging(0), -2);
            due.is("aging(1000)", x.aging(1000), -2);
            due.is("aging", x.count(7), 999);
        }).broken("int aging = 100", "int aging = 99")
            .broken("MOST_AGING = 999", "MOST_AGING = 998")
            .broken("MOST_AGING = 999", "MOST_AGING = 1000")
            .broken("within(n, 1, MOST_AGING)", "within(n, 0, MOST_AGING)")
            .broken("within(n, 1, MOST_AGING)", "within(n, 2, MOST_AGING)");
        s.of(43, "LOAD is all WEIGHTS together.", due -> {
            TwinOrders x = new TwinOrders();
            due.is("empty", x.count(1), 0);
            x.put(1, 0, 10, 0);
            x.put(2, 0, 7, 3);
            due.is("two", x.count(1), 17);
            x.put(1, 0, 4, 0);
            due.is("lighter", x.count(1), 11);
            x.put(3, 0, 29, 0);
            due.is("full", x.count(1), 40);
            x.put(4, 0, 1, 0);
            due.is("one evicted", x.count(1), 34);
            x.remove(3);
            due.is("removed", x.count(1), 5);
            x.put(2, 0, 9, 1);
            x.tick(1);
            due.is("expired", x.count(1), 5);
        }).broken("load += more;", "load += 0;")
            .broken("load += weight;", "load += 1;")
            .broken("load -= weights[slot];", "load -= 1;");
        s.of(43, "(CAP is LOAD at least at any time.)", due -> {
            TwinOrders x = Make.store(20, 1, 10, 2, 10);
            due.is("as much as CAP", x.count(1), 20);
            x.put(2, 0, 11, 0);
            due.is("grown by one", x.count(1), 11);
            x.put(3, 0, 10, 0);
            due.is("one too heavy came", x.count(1), 10);
            x.put(4, 0, 10, 0);
            x.resize(19);
            due.is("CAP one less", x.count(1), 10);
            for (int seed = 0; seed < 60; seed++) {
                x.chance(seed, 60);
                x.resize(Math.max(x.count(16), seed % 30));
                due.isTrue("LOAD " + x.count(1) + " is within CAP " + x.count(2), x.count(1) <= x.count(2));
            }
        }).broken("entries.load + weight > cap", "entries.load + weight > cap + 1")
            .broken("i < MOST_ENTRIES && entries.load > cap; i++) {\n                    evict",
                "i < MOST_ENTRIES && entries.load > cap + 1; i++) {\n                    evict")
            .broken("i < MOST_ENTRIES && entries.load > cap; i++) {\n                evict",
                "i < MOST_ENTRIES && entries.load > cap + 1; i++) {\n                evict");
    }

    private static void uses(Sentences s) {
        s.of(43, "USES are counted from 0 on: by a USE of an ENTRY there is one more", due -> {
            TwinOrders x = new TwinOrders();
            due.is("at first", x.count(5), 0);
            x.put(1, 0, 1, 0);
            due.is("it came", x.count(5), 1);
            x.get(1);
            due.is("got", x.count(5), 2);
            x.put(1, 0, 1, 0);
            due.is("changed", x.count(5), 3);
            x.get(2);
            due.is("missed is no USE", x.count(5), 3);
            x.put(2, 0, 99, 0);
            due.is("rejected is no USE", x.count(5), 3);
            x.pin(1, true);
            x.remove(1);
            due.is("neither pinned nor removed", x.count(5), 3);
        }).broken("uses++;", "uses += 2;")
            .broken("int uses;", "int uses = 1;");
        s.of(15, "LAST of the ENTRY is how many there are then", due -> {
            TwinOrders x = Make.store(40, 1, 1, 2, 1);
            due.is("the first USE", x.entry(1, 3), 1);
            due.is("the second", x.entry(2, 3), 2);
            x.get(1);
            due.is("the third", x.entry(1, 3), 3);
            due.is("the other one as it was", x.entry(2, 3), 2);
        }).broken("lasts[slot] = uses;", "lasts[slot] = uses - 1;");
        s.of(15, "its COUNT is one more", due -> {
            TwinOrders x = Make.store(40, 1, 1, 2, 1);
            due.is("it came", x.entry(1, 2), 1);
            x.get(1);
            due.is("got", x.entry(1, 2), 2);
            x.put(1, 0, 1, 0);
            due.is("changed", x.entry(1, 2), 3);
            due.is("the other one as it was", x.entry(2, 2), 1);
        }).broken("counts[slot] + 1,", "counts[slot] + 2,");
        s.of(15, "(999999 at most)", EntrySentences::mostCount)
            .broken("MOST_COUNT = 999999", "MOST_COUNT = 999998")
            .broken("MOST_COUNT = 999999", "MOST_COUNT = 1000000");
    }

    /** No 512 calls bring a COUNT there; the class holds the bound for more of them all the same. */
    private static void mostCount(Due due) {
        TwinOrders x = Make.store(40, 1, 1);
        for (int n = 0; n < 8; n++) {
            x.listen(1, 1, 0, 1, 0, 1);
        }
        // A put is heard 100 times by eight that put again: 801 uses.
        for (int i = 0; i < 3000 && x.count(5) < 1001000; i++) {
            int quiet = agingThatSpares(x.count(5), 801);
            if (quiet > 0) {
                x.aging(quiet);
                x.put(1, 0, 1, 0);
            } else {
                x.aging(agingThatSpares(x.count(5), 1));
                x.get(1);
            }
        }
        due.is("never halved", x.count(17), 0);
        due.isTrue("more uses", x.count(5) > 1000000);
        due.is("COUNT", x.entry(1, 2), 999999);
        due.is("COUNT behind more", x.behind(1, 1, 0), 999999);
    }

    private static int agingThatSpares(int uses, int more) {
        for (int n = 999; n > 0; n--) {
            if (uses % n + more < n) {
                return n;
            }
        }
        return 0;
    }

    private static void halving(Sentences s) {
        s.of(8, "If USES are a multiple of AGING behind a USE, all COUNTS are halved then", due -> {
            TwinOrders x = Make.store(40, 1, 1, 2, 1);
            Make.getAll(x, 1, 1, 1, 2, 2, 2);
            x.aging(9);
            due.is("USES are 8", x.count(17), 0);
            due.is("COUNT", x.entry(1, 2), 4);
            x.get(1);
            due.is("USES are 9: the one used, with that USE", x.entry(1, 2), 2);
            due.is("the other one, too", x.entry(2, 2), 2);
            due.is("halved", x.count(17), 1);
            x.get(3);
            x.aging(3);
            due.is("without a USE not", x.count(17), 1);
            Make.getAll(x, 1, 1);
            due.is("USES are 11", x.count(17), 1);
            x.put(1, 0, 1, 0);
            due.is("USES are 12", x.count(17), 2);
            TwinOrders full = Make.many(60);
            full.aging(120);
            for (int key = 0; key < 60; key++) {
                due.is("not yet", full.entry(key, 2), 1);
                full.get(key);
            }
            due.first("all of 60", key -> full.entry(key, 2), ones(60));
        }).broken("uses % aging == 0", "uses % aging == 1")
            .broken("uses % aging == 0", "uses == aging")
            .broken("uses % aging == 0", "false")
            .broken("for (int i = 0; i < size; i++) {\n                counts[i] = Math.max",
                "for (int i = 0; i <= size; i++) {\n                counts[i] = Math.max")
            .broken("for (int i = 0; i < size; i++) {\n                counts[i] = Math.max",
                "for (int i = 1; i < size; i++) {\n                counts[i] = Math.max")
            .broken("counts[slot] = Math.min(counts[slot] + 1, MOST_COUNT);\n"
                + "            if (aging > 0 && uses % aging == 0) {\n                halve();\n            }",
                "if (aging > 0 && uses % aging == 0) {\n                halve();\n            }\n"
                + "            counts[slot] = Math.min(counts[slot] + 1, MOST_COUNT);")
            .broken("counts[i] = Math.max(counts[i] / 2, 1);",
                "if (lasts[i] == uses) {\n counts[i] = Math.max(counts[i] / 2, 1);\n}");
        s.of(8, "(cut, 1 at least)", due -> {
            TwinOrders x = Make.store(40, 1, 1, 2, 1, 3, 1);
            Make.getAll(x, 1, 1, 1, 1, 2, 2);
            x.aging(10);
            x.get(3);
            due.is("5 cut", x.entry(1, 2), 2);
            due.is("3 cut", x.entry(2, 2), 1);
            due.is("2", x.entry(3, 2), 1);
        }).broken("counts[i] / 2", "(counts[i] + 1) / 2");
        s.of(8, "1 at least", due -> {
            TwinOrders x = Make.store(40, 1, 1);
            x.aging(2);
            x.put(2, 0, 1, 0);
            due.is("of 1", x.entry(1, 2), 1);
            due.is("of the one that came by it", x.entry(2, 2), 1);
            x.aging(1);
            Make.getAll(x, 2, 2, 2);
            due.is("halved four times", x.count(17), 4);
            due.is("of 1 again", x.entry(1, 2), 1);
            due.is("of 2 each time", x.entry(2, 2), 1);
        }).broken("Math.max(counts[i] / 2, 1)", "counts[i] / 2")
            .broken("Math.max(counts[i] / 2, 1)", "Math.max(counts[i] / 2, 2)");
    }

    private static int[] ones(int n) {
        int[] row = new int[n];
        Arrays.fill(row, 1);
        return row;
    }

    private static void orders(Sentences s) {
        s.of(16, "ORDER 0 is by LAST, the least first", due -> {
            TwinOrders x = Make.store(40, 1, 1, 2, 1, 3, 1);
            Make.getAll(x, 1, 1, 3);
            due.row("order(0, k)", k -> x.order(0, k), 2, 1, 3);
        }).broken("return lasts[a] < lasts[b];", "return lasts[a] > lasts[b];")
            .broken("return lasts[a] < lasts[b];", "return a < b;");
        s.of(16, "ORDER 1 by COUNT, the least first", due -> {
            TwinOrders x = Make.store(40, 1, 1, 2, 1, 3, 1);
            Make.getAll(x, 1, 1, 3);
            due.row("order(1, k)", k -> x.order(1, k), 2, 3, 1);
        }).broken("return counts[a] < counts[b];", "return counts[a] > counts[b];")
            .broken("order == BY_COUNT && counts[a] != counts[b]", "false");
        s.of(16, "of like ones by LAST", due -> {
            TwinOrders x = Make.store(40, 1, 1, 2, 1, 3, 1);
            Make.getAll(x, 3, 1, 2);
            due.row("order(1, k)", k -> x.order(1, k), 3, 1, 2);
        }).broken("return lasts[a] < lasts[b];", "return order == BY_COUNT ? a < b : lasts[a] < lasts[b];")
            .broken("return lasts[a] < lasts[b];",
                "return order == BY_COUNT ? lasts[a] > lasts[b] : lasts[a] < lasts[b];");
    }

    private static void rejected(Sentences s) {
        s.of(2, "To PUT a KEY: it is REJECTED, if its WEIGHT", due -> {
            TwinOrders x = Make.store(20, 1, 20);
            due.is("above CAP", x.put(2, 0, 21, 0), -1);
            due.is("nothing went", x.count(0), 1);
            due.is("as heavy as CAP", x.put(2, 0, 20, 0), 1);
            due.is("one that is there above CAP", x.put(2, 0, 21, 0), -1);
            due.is("it is as it was", x.entry(2, 1), 20);
            x.resize(0);
            due.is("CAP 0", x.put(2, 0, 1, 0), -1);
        }).broken("weight + pinnedOthers > cap", "weight + pinnedOthers >= cap")
            .broken("weight + pinnedOthers > cap", "weight + pinnedOthers > cap + 1")
            .broken("weight + pinnedOthers > cap", "entries.load + weight > cap");
        s.of(2, "and those of PINNED ENTRIES of other KEYS together are above CAP", due -> {
            TwinOrders x = Make.store(20, 1, 8, 2, 8);
            x.pin(1, true);
            due.is("as much as CAP", x.put(3, 0, 12, 0), 1);
            due.is("above CAP", x.put(3, 0, 13, 0), -1);
            due.is("its own WEIGHT, PINNED, is aside", x.put(1, 0, 20, 0), 0);
            due.is("others went for it", x.count(0), 1);
            x.put(1, 0, 5, 0);
            x.put(4, 0, 6, 0);
            x.pin(4, true);
            due.is("of two PINNED ones the other one counts", x.put(4, 0, 15, 0), 0);
            due.is("above CAP by one", x.put(4, 0, 16, 0), -1);
        }).broken("pinnedOthers -= entries.weights[slot];", "pinnedOthers -= 0;")
            .broken("int pinnedOthers = entries.pinnedLoad;", "int pinnedOthers = 0;")
            .broken("int pinnedOthers = entries.pinnedLoad;", "int pinnedOthers = entries.load;")
            .broken("entries.has(slot) && entries.pinned[slot]", "entries.has(slot)");
        s.of(2, "or if there are 60 ENTRIES, all PINNED, none of that KEY.", due -> {
            TwinOrders x = Make.many(60);
            Make.pinAll(x, 0, 58);
            due.is("one may go", x.put(60, 0, 1, 0), 1);
            due.is("it went", x.entry(59, 0), -10000);
            x.pin(60, true);
            due.is("all PINNED", x.put(61, 0, 1, 0), -1);
            due.is("one of that KEY", x.put(60, 0, 2, 0), 0);
            x.remove(60);
            due.is("59, all PINNED", x.put(61, 0, 1, 0), 1);
        }).broken("return slot == NONE && entries.size >= MOST_ENTRIES", "return entries.size >= MOST_ENTRIES")
            .broken("&& entries.first(BY_USE, NONE) == NONE", "&& true")
            .broken("return slot == NONE && entries.size >= MOST_ENTRIES",
                "return slot == NONE && entries.size > MOST_ENTRIES")
            .broken("return slot == NONE && entries.size >= MOST_ENTRIES",
                "return slot == NONE && entries.size >= MOST_ENTRIES - 1");
    }

    private static void putting(Sentences s) {
        s.of(2, "Is there an ENTRY of that KEY, its VALUE, WEIGHT, TILL become those told", due -> {
            TwinOrders x = new TwinOrders();
            x.put(1, 5, 6, 7);
            x.pin(1, true);
            x.put(1, 8, 9, 10);
            due.is("VALUE", x.entry(1, 0), 8);
            due.is("WEIGHT", x.entry(1, 1), 9);
            due.is("TILL", x.entry(1, 4), 10);
            due.is("PINNED as it was", x.entry(1, 5), 1);
            due.is("WEIGHTS of PINNED ones", x.count(16), 9);
            x.put(1, 8, 9, 0);
            due.is("TILL NONE", x.entry(1, 4), -1);
        }).broken("values[slot] = value;", "values[slot] += 0;")
            .broken("weights[slot] = weight;", "weights[slot] += 0;")
            .broken("tills[slot] = till;", "tills[slot] += 0;")
            .broken("tills[slot] = till;", "pinned[slot] = false;")
            .broken("pinnedLoad += more;", "pinnedLoad += 0;");
        s.of(2, "else as long as there are 60 ENTRIES one is EVICTED.", due -> {
            TwinOrders x = Make.many(60);
            x.put(59, 0, 2, 0);
            due.is("for one that is there none", x.count(11), 0);
            x.put(60, 0, 1, 0);
            due.is("for a new one one", x.count(11), 1);
            due.is("by the WAY", x.ghost(0, 0), 0);
            due.is("it came", x.entry(60, 2), 1);
            x.remove(5);
            x.put(61, 0, 1, 0);
            due.is("of 59 none", x.count(11), 1);
        }).broken("entries.size >= MOST_ENTRIES || entries", "entries.size > MOST_ENTRIES || entries")
            .broken("entries.size >= MOST_ENTRIES || entries", "entries.size >= MOST_ENTRIES - 1 || entries")
            .broken("i < MOST_ENTRIES && entries.load > cap; i++) {\n                    evict",
                "i < MOST_ENTRIES && isTight(0); i++) {\n                    evict");
        s.of(2, "Then, as long as LOAD (with the new one, if it is new) is above CAP, one is EVICTED", due -> {
            TwinOrders x = Make.store(30, 1, 10, 2, 10);
            x.put(3, 0, 10, 0);
            due.is("as much as CAP", x.count(11), 0);
            x.put(4, 0, 1, 0);
            due.is("one above", x.count(11), 1);
            x.put(5, 0, 20, 0);
            due.is("as many as it takes", x.count(11), 3);
            due.row("order(0, k)", k -> x.order(0, k), 4, 5);
            TwinOrders full = Make.many(60);
            full.resize(60);
            full.put(60, 0, 60, 0);
            due.is("all of 60", full.count(11), 60);
            due.row("it alone is there", k -> full.order(0, k), 60);
            x.put(4, 0, 10, 0);
            due.is("one that is there, as much as CAP", x.count(11), 3);
            x.put(4, 0, 11, 0);
            due.is("one that is there, one above", x.count(11), 4);
        }).broken("entries.load + weight > cap", "entries.load + weight >= cap")
            .broken("entries.load + weight > cap", "entries.load > cap")
            .broken("i < MOST_ENTRIES && entries.load > cap; i++) {\n                    evict",
                "i < MOST_ENTRIES && entries.load >= cap; i++) {\n                    evict")
            .broken("i < MOST_ENTRIES && isTight(weight); i++) {\n                    evict",
                "i < 1 && isTight(weight); i++) {\n                    evict")
            .broken("for (int i = 0; i < MOST_ENTRIES && isTight(weight); i++) {",
                "for (int i = 1; i < MOST_ENTRIES && isTight(weight); i++) {");
        s.of(2, "then it comes, if it is new (COUNT 0, not PINNED); then there is a USE of it.", due -> {
            TwinOrders x = Make.store(40, 1, 1);
            Make.getAll(x, 1, 1);
            x.pin(1, true);
            x.remove(1);
            x.put(1, 0, 1, 0);
            due.is("COUNT", x.entry(1, 2), 1);
            due.is("not PINNED", x.entry(1, 5), 0);
            due.is("LAST", x.entry(1, 3), 4);
            x.put(1, 0, 1, 0);
            due.is("no new one: COUNT is one more", x.entry(1, 2), 2);
        }).broken("counts[size] = 0;", "counts[size] += 0;")
            .broken("pinned[size] = false;", "pinned[size] |= false;")
            .broken("entries.use(entries.find(key));", "");
    }

    private static void getting(Sentences s) {
        s.of(3, "To GET a KEY is a USE of its ENTRY, or it is MISSED.", due -> {
            TwinOrders x = Make.store(40, 1, 1);
            x.get(1);
            due.is("a USE", x.entry(1, 3), 2);
            due.is("none MISSED", x.count(10), 0);
            x.get(2);
            due.is("no USE", x.count(5), 2);
            due.is("MISSED", x.count(10), 1);
            due.is("it does not come", x.count(0), 1);
        }).broken("entries.use(slot);\n            got++;", "got++;")
            .broken("tell(MISSED, key, 0, 0);", "");
    }
}
