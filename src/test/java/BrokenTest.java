/** The sentences about what is spoilt, and about records that are broken. */
public final class BrokenTest {
    public static void main(String[] args) {
        Check c = new Check();
        everyBit(c);
        inEveryKindOfFile(c);
        onlyGetLooks(c);
        newerRecords(c);
        knownSizes(c);
        orderOfRefusals(c);
        bitsOfSpoil(c);
        bytesOfSpoil(c);
        c.end();
    }

    private static void everyBit(Check c) {
        c.says("when its sum is not right, it is BROKEN");
        AppendStore x = new AppendStore();
        x.put(1, 1, 77, 1);
        x.put(2, 2, 78, 2);
        x.put(3, 1, 79, 1);
        for (int i = 0; i < 12; i++) {
            for (int bit = 1; bit < 256; bit *= 2) {
                x.spoil(0, 10 + i, false, bit);
                c.refuses(Check.UNSUPPORTED, "get with bit " + bit + " of byte " + i, () -> x.get(2, 2));
                x.spoil(0, 10 + i, false, bit);
            }
        }
        c.is("get when all is mended", x.get(2, 2), 78);
        x.spoil(0, 9, false, 1);
        x.spoil(0, 22, false, 1);
        c.is("get between two broken ones", x.get(2, 2), 78);
        c.refuses(Check.UNSUPPORTED, "get of the one in front", () -> x.get(1, 1));
        c.refuses(Check.UNSUPPORTED, "get of the one behind", () -> x.get(3, 1));
    }

    private static void inEveryKindOfFile(Check c) {
        c.says("A RECORD THAT IS READ by get() is looked at");
        AppendStore x = new AppendStore();
        x.put(1, 1, 5, 1);
        look(c, x, "active");
        x.sync();
        look(c, x, "active and synced");
        x.open(false);
        look(c, x, "sealed");
        x.merge(1);
        look(c, x, "published");
        x.open(true);
        look(c, x, "opened by its hint");
        x.spoil(0, 9, false, 1);
        x.open(true);
        c.refuses(Check.UNSUPPORTED, "get of what was spoilt before an opening by the hint", () -> x.get(1, 1));
        x.open(false);
        c.refuses(Check.NONE, "get of what was spoilt before an opening without", () -> x.get(1, 1));
    }

    private static void look(Check c, AppendStore x, String kind) {
        c.is("get, " + kind, x.get(1, 1), 5);
        x.spoil(0, 9, false, 4);
        c.refuses(Check.UNSUPPORTED, "get, " + kind + " and spoilt", () -> x.get(1, 1));
        x.spoil(0, 9, false, 4);
    }

    private static void onlyGetLooks(Check c) {
        c.says("what is spoilt later does not change these");
        AppendStore x = new AppendStore();
        x.put(1, 1, 5, 1);
        x.put(2, 1, 6, 1);
        String before = View.brief(x);
        for (int i = 0; i < 9; i++) {
            x.spoil(0, i, false, 255);
        }
        c.is("keys()", x.keys(), 2);
        c.is("the key's size", x.key(0, 0), 1);
        c.is("the key's number", x.key(0, 1), 1);
        c.is("the place", x.key(0, 3), 0);
        c.is("live bytes", x.file(0, 3), 20);
        c.is("delete", x.delete(1, 1), true);
        c.is("live bytes after it", x.file(0, 3), 10);
        for (int i = 0; i < 9; i++) {
            x.spoil(0, i, false, 255);
        }
        c.refuses(Check.NONE, "get of what was deleted", () -> x.get(1, 1));
        x.lose(20);
        x.open(false);
        c.is("all that is seen when it is mended and the tombstone lost",
                View.brief(x), before.replace("file 1 20 0", "file 1 20 20"));
    }

    private static void newerRecords(Check c) {
        c.says("where its latest record is");
        AppendStore x = new AppendStore();
        x.put(1, 1, 5, 1);
        x.spoil(0, 9, false, 1);
        x.put(1, 1, 6, 1);
        c.is("a newer one", x.get(1, 1), 6);
        x.spoil(0, 19, false, 1);
        x.spoil(0, 9, false, 1);
        c.refuses(Check.UNSUPPORTED, "the newer one is broken, the older is not", () -> x.get(1, 1));
        x.delete(1, 1);
        x.spoil(0, 20, false, 1);
        c.refuses(Check.NONE, "a broken tombstone is not read", () -> x.get(1, 1));
    }

    private static void knownSizes(Check c) {
        c.says("The store knows the places and sizes of all records from when they were appended");
        AppendStore x = new AppendStore();
        x.put(1, 1, 5, 4);
        Check.forge(x, 0, false, Check.summed(0, 0, 3, 2, 1, 0, 0, 0, 5));
        c.is("get of a record with other sizes and a right sum", x.get(1, 1), 5);
        c.is("live bytes", x.file(0, 3), 13);
        x.open(false);
        c.is("gone over in opening", x.key(0, 0), 3);
        c.is("get by its key then", x.get(0x010000, 3), 5);
        x.merge(1);
        Check.forge(x, 0, false, Check.summed(0, 0, 1, 4, 1, 0, 0, 0, 6));
        c.is("get of a copy with other sizes and a right sum", x.get(0x010000, 3), 6);
        x.open(true);
        c.is("opened by its hint", x.get(0x010000, 3), 6);
        x.open(false);
        c.is("gone over in opening again", x.get(1, 1), 6);
    }

    private static void orderOfRefusals(Check c) {
        c.says("IllegalArgumentException: its size is not so; IllegalStateException: closed;"
                + " NoSuchElementException: it has none; UnsupportedOperationException: its record is broken");
        AppendStore x = new AppendStore();
        x.put(1, 1, 5, 1);
        x.spoil(0, 0, false, 1);
        c.refuses(Check.ARGUMENT, "get(1, 0)", () -> x.get(1, 0));
        c.refuses(Check.NONE, "get(1, 2)", () -> x.get(1, 2));
        c.refuses(Check.UNSUPPORTED, "get(1, 1)", () -> x.get(1, 1));
        x.lose(100);
        c.refuses(Check.ARGUMENT, "get(1, 5) when closed", () -> x.get(1, 5));
        c.refuses(Check.STATE, "get(1, 2) when closed", () -> x.get(1, 2));
        c.refuses(Check.STATE, "get(1, 1) when closed", () -> x.get(1, 1));
    }

    private static void bitsOfSpoil(Check c) {
        c.says("Its bits that are 1 in bits (the lowest 8) are turned over");
        int[][] rows = {
            {0, 0x5A}, {1, 0x5B}, {0x80, 0xDA}, {0xFF, 0xA5}, {0x100, 0x5A}, {0x1FF, 0xA5}, {-1, 0xA5}, {-256, 0x5A},
            {Integer.MIN_VALUE, 0x5A}, {Integer.MAX_VALUE, 0xA5}, {0x5A, 0}, {0xA5, 0xFF},
        };
        AppendStore x = new AppendStore();
        x.put(0x5A, 1, 5, 1);
        for (int[] row : rows) {
            x.spoil(0, 8, false, row[0]);
            c.is("octet after bits " + row[0], x.octet(0, 8, false), row[1]);
            c.is("the one in front", x.octet(0, 7, false), 1);
            c.is("the one behind", x.octet(0, 9, false), 5);
            x.spoil(0, 8, false, row[0]);
            c.is("octet after bits " + row[0] + " twice", x.octet(0, 8, false), 0x5A);
        }
    }

    private static void bytesOfSpoil(Check c) {
        c.says("IllegalArgumentException: there is no such byte");
        AppendStore x = new AppendStore();
        x.put(1, 1, 5, 1);
        x.open(false);
        x.merge(1);
        for (boolean hint : new boolean[] {false, true}) {
            int size = x.file(0, hint ? 4 : 1);
            c.is("octet of the last byte", x.octet(0, size - 1, hint) <= 255, true);
            x.spoil(0, size - 1, hint, 0);
            for (int i : new int[] {-1, size, 100, 256, Integer.MIN_VALUE, Integer.MAX_VALUE}) {
                c.refuses(Check.ARGUMENT, "octet(0, " + i + ", " + hint + ")", () -> x.octet(0, i, hint));
                c.refusesAct(Check.ARGUMENT, "spoil(0, " + i + ", " + hint + ")", () -> x.spoil(0, i, hint, 0));
            }
            for (int k : new int[] {-1, 1, 6, Integer.MIN_VALUE, Integer.MAX_VALUE}) {
                c.refuses(Check.ARGUMENT, "octet(" + k + ", 0, " + hint + ")", () -> x.octet(k, 0, hint));
                c.refusesAct(Check.ARGUMENT, "spoil(" + k + ", 0, " + hint + ")", () -> x.spoil(k, 0, hint, 0));
            }
        }
        x.put(2, 1, 5, 1);
        c.refuses(Check.ARGUMENT, "octet of a hint that is not there", () -> x.octet(1, 0, true));
        c.refusesAct(Check.ARGUMENT, "spoil of a hint that is not there", () -> x.spoil(1, 0, true, 1));
    }
}
