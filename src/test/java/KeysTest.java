/** Promises 5 and 6. */
public final class KeysTest {
    public static void main(String[] args) {
        Check c = new Check();
        counting(c);
        order(c);
        places(c);
        wrongCalls(c);
        c.end();
    }

    private static void counting(Check c) {
        AppendStore x = new AppendStore();
        x.put(1, 1, 0, 0);
        x.put(1, 2, 0, 0);
        x.put(1, 1, 5, 1);
        c.is("keys()", x.keys(), 2);
        x.delete(1, 1);
        c.is("keys() after a delete", x.keys(), 1);
        x.delete(1, 1);
        c.is("keys() after a delete of nothing", x.keys(), 1);
        x.lose(0);
        c.refuses(Check.STATE, "keys() when closed", () -> x.keys());
        c.is("open(true)", x.open(true), 0);
        c.is("keys() after opening", x.keys(), 0);

        AppendStore y = new AppendStore();
        for (int i = 0; i < 66; i++) {
            y.put(i, 1, 0, 0);
        }
        c.is("as many keys as there can be", y.keys(), 66);
        c.is("open(false) with as many", y.open(false), 66);
        c.is("the last one", y.key(65, 1), 65);
    }

    /** The keys in their order, each as its size and its number. */
    private static void order(Check c) {
        long[][] keys = {
            {1, 0x00}, {2, 0x0000}, {3, 0x000000}, {4, 0x00000000}, {4, 0x000000FF}, {3, 0x000001}, {2, 0x0061},
            {1, 0x61}, {2, 0x6100}, {4, 0x61000000L}, {2, 0x6101}, {1, 0x7F}, {4, 0x7FFFFFFFL}, {1, 0x80},
            {4, 0x80000000L}, {2, 0x80FF}, {1, 0xFF}, {2, 0xFF7F}, {3, 0xFFFF00}, {4, 0xFFFFFFFFL},
        };
        AppendStore x = new AppendStore();
        for (int i = 0; i < keys.length; i++) {
            int j = (i * 7 + 3) % keys.length;
            x.put(keys[j][1], (int) keys[j][0], j, 1);
        }
        c.is("keys()", x.keys(), keys.length);
        for (int round = 0; round < 2; round++) {
            for (int i = 0; i < keys.length; i++) {
                c.is("size of key " + i, x.key(i, 0), keys[i][0]);
                c.is("number of key " + i, x.key(i, 1), keys[i][1]);
                c.is("value of key " + i, x.get(keys[i][1], (int) keys[i][0]), i);
            }
            x.open(true);
        }
        x.delete(0x61, 1);
        c.is("size behind a gap", x.key(7, 0), 2);
        c.is("number behind a gap", x.key(7, 1), 0x6100);
        c.refuses(Check.NONE, "key behind the last", () -> x.key(keys.length - 1, 0));
    }

    private static void places(Check c) {
        AppendStore x = new AppendStore();
        Check.fill(x, 0, 7);
        x.put(0, 1, 5, 1);
        c.is("file of key 0", x.key(0, 2), 2);
        c.is("place of key 0", x.key(0, 3), 34);
        c.is("file of key 1", x.key(1, 2), 1);
        c.is("place of key 1", x.key(1, 3), 17);
        c.is("file of key 6", x.key(6, 2), 2);
        c.is("place of key 6", x.key(6, 3), 17);
        x.merge(20);
        c.is("file of key 1 after a merge", x.key(1, 2), 1);
        c.is("place of key 1 after a merge", x.key(1, 3), 0);
        c.is("place of key 4 after a merge", x.key(4, 3), 51);
        c.is("file of key 0 after a merge", x.key(0, 2), 2);
        x.spoil(0, 8, false, 255);
        c.is("a spoilt key keeps its number", x.key(1, 1), 1);
    }

    private static void wrongCalls(Check c) {
        AppendStore x = new AppendStore();
        x.put(1, 1, 1, 1);
        for (int what : new int[] {-1, 4, Integer.MIN_VALUE, Integer.MAX_VALUE}) {
            c.refuses(Check.ARGUMENT, "key(0, " + what + ")", () -> x.key(0, what));
            c.refuses(Check.ARGUMENT, "key(9, " + what + ")", () -> x.key(9, what));
        }
        for (int k : new int[] {-1, 1, 66, Integer.MIN_VALUE, Integer.MAX_VALUE}) {
            c.refuses(Check.NONE, "key(" + k + ", 0)", () -> x.key(k, 0));
        }
        x.lose(100);
        c.refuses(Check.STATE, "key(0, 0) when closed", () -> x.key(0, 0));
        c.refuses(Check.STATE, "key(9, 0) when closed", () -> x.key(9, 0));
        c.refuses(Check.ARGUMENT, "key(0, 4) when closed", () -> x.key(0, 4));
    }
}
