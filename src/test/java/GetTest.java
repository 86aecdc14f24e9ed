/** Promise 4. */
public final class GetTest {
    public static void main(String[] args) {
        Check c = new Check();
        values(c);
        wrongCalls(c);
        brokenRecords(c);
        forgedRecords(c);
        c.end();
    }

    private static void values(Check c) {
        AppendStore x = new AppendStore();
        for (int size = 0; size <= 8; size++) {
            x.put(size, 1, -1, size);
        }
        c.is("no bytes", x.get(0, 1), 0);
        for (int size = 1; size < 8; size++) {
            c.is(size + " bytes", x.get(size, 1), (1L << (8 * size)) - 1);
        }
        c.is("8 bytes", x.get(8, 1), -1);
        x.put(8, 1, Long.MIN_VALUE, 8);
        c.is("the latest one", x.get(8, 1), Long.MIN_VALUE);
        c.is("only the lowest byte of the key", x.get(0x7700 + 3, 1), 0xFFFFFF);
        x.put(0xFFFFFFFFL, 4, 0x1234, 2);
        c.is("a key of four bytes", x.get(-1, 4), 0x1234);
    }

    private static void wrongCalls(Check c) {
        AppendStore x = new AppendStore();
        x.put(1, 1, 1, 1);
        for (int size : new int[] {0, 5, -1, Integer.MIN_VALUE, Integer.MAX_VALUE}) {
            c.refuses(Check.ARGUMENT, "get with a size of " + size, () -> x.get(1, size));
        }
        for (int size = 2; size <= 4; size++) {
            int other = size;
            c.refuses(Check.NONE, "get of the number with another size", () -> x.get(1, other));
        }
        x.lose(100);
        c.refuses(Check.STATE, "get when closed", () -> x.get(1, 1));
        c.refuses(Check.STATE, "get of nothing when closed", () -> x.get(2, 1));
        c.refuses(Check.ARGUMENT, "get of a wrong size when closed", () -> x.get(1, 0));
    }

    private static void brokenRecords(Check c) {
        AppendStore x = new AppendStore();
        x.put(1, 1, 77, 2);
        x.put(2, 1, 78, 2);
        for (int i = 0; i < 11; i++) {
            x.spoil(0, i, false, 1 << (i % 8));
            c.refuses(Check.UNSUPPORTED, "get with byte " + i + " spoilt", () -> x.get(1, 1));
            c.is("the record behind it", x.get(2, 1), 78);
            x.spoil(0, i, false, 1 << (i % 8));
            c.is("get with it mended", x.get(1, 1), 77);
        }
        x.spoil(0, 0, false, 1);
        c.is("keys()", x.keys(), 2);
        x.put(1, 1, 79, 1);
        c.is("a newer record", x.get(1, 1), 79);
        c.is("delete of a key with a broken record", breakAndDelete(x), true);
        c.refuses(Check.NONE, "get then", () -> x.get(2, 1));
    }

    private static boolean breakAndDelete(AppendStore x) {
        x.spoil(0, 12, false, 1);
        return x.delete(2, 1);
    }

    private static void forgedRecords(Check c) {
        AppendStore x = new AppendStore();
        x.put(1, 1, 77, 2);
        Check.forge(x, 0, false, Check.summed(0, 0, 1, 2, 1, 0, 79));
        c.is("a value under a right sum", x.get(1, 1), 79);
        Check.forge(x, 0, false, Check.summed(0, 0, 2, 1, 1, 0, 79));
        c.is("sizes are known from the appending", x.get(1, 1), 79);
        Check.forge(x, 0, false, Check.summed(0, 0, 1, 255, 2, 3, 4));
        c.is("so are the key and that it is no tombstone", x.get(1, 1), 0x0304);
        c.refuses(Check.NONE, "the key in the bytes", () -> x.get(2, 1));
        Check.forge(x, 0, false, Check.summed(0, 0, 1, 1, 2, 3));
        c.refuses(Check.UNSUPPORTED, "a sum that is right for another size", () -> x.get(1, 1));
    }
}
