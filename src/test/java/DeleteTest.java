/** Promise 3. */
public final class DeleteTest {
    public static void main(String[] args) {
        Check c = new Check();
        tombstones(c);
        wrongCalls(c);
        full(c);
        sealing(c);
        c.end();
    }

    private static void tombstones(Check c) {
        AppendStore x = new AppendStore();
        c.is("delete of nothing", x.delete(1, 2), false);
        c.is("files()", x.files(), 0);
        x.put(0x0A0B, 2, 5, 1);
        c.is("another size is another key", x.delete(0x0B, 1), false);
        c.is("delete", x.delete(0x990A0BL, 2), true);
        c.is("delete again", x.delete(0x0A0B, 2), false);
        x.put(1, 1, 0, 0);
        c.bytes("records", x, 0, false, Check.join(
                Check.summed(0, 0, 2, 1, 0x0A, 0x0B, 5),
                Check.summed(0, 1, 2, 255, 0x0A, 0x0B),
                Check.summed(0, 2, 1, 0, 1)));
        c.is("keys()", x.keys(), 1);
        c.refuses(Check.NONE, "get of what was deleted", () -> x.get(0x0A0B, 2));
        c.is("live bytes", x.file(0, 3), 9);
        c.is("open(false)", x.open(false), 1);
        c.refuses(Check.NONE, "get after opening", () -> x.get(0x0A0B, 2));
        x.put(0x0A0B, 2, 6, 1);
        c.is("put again", x.get(0x0A0B, 2), 6);
        c.is("delete of a key in a new file", x.delete(1, 1), true);
        c.is("keys() then", x.keys(), 1);
    }

    private static void wrongCalls(Check c) {
        AppendStore x = new AppendStore();
        x.put(1, 1, 1, 1);
        for (int size : new int[] {0, 5, -1, Integer.MIN_VALUE, Integer.MAX_VALUE}) {
            c.refuses(Check.ARGUMENT, "delete with a size of " + size, () -> x.delete(1, size));
        }
        x.lose(100);
        c.refuses(Check.STATE, "delete when closed", () -> x.delete(1, 1));
        c.refuses(Check.STATE, "delete of nothing when closed", () -> x.delete(2, 1));
        c.refuses(Check.ARGUMENT, "delete of a wrong size when closed", () -> x.delete(1, 0));
    }

    private static void full(Check c) {
        AppendStore x = Check.full();
        c.is("a tombstone that fits", x.delete(7, 1), true);
        c.is("bytes", x.file(5, 1), 94);
        c.refuses(Check.UNSUPPORTED, "delete when full", () -> x.delete(8, 1));
        c.is("the value stays", x.get(8, 1), 1008);
        c.is("delete of nothing when full", x.delete(7, 1), false);
        c.refuses(Check.ARGUMENT, "delete of a wrong size when full", () -> x.delete(8, 5));
        c.is("keys()", x.keys(), 29);
        c.is("synced", x.file(5, 2), 0);
    }

    private static void sealing(Check c) {
        AppendStore x = new AppendStore();
        Check.fill(x, 0, 5);
        x.put(5, 1, 0, 0);
        c.is("bytes", x.file(0, 1), 94);
        c.is("delete", x.delete(0, 1), true);
        c.is("it goes to a new file", x.file(1, 1), 9);
        c.is("the old one is synced", x.file(0, 2), 94);
        x.lose(0);
        c.is("a tombstone that was lost", x.open(false), 6);
        c.is("get", x.get(0, 1), 1000);
    }
}
