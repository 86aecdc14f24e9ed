/** Promise 2. */
public final class PutTest {
    public static void main(String[] args) {
        Check c = new Check();
        bytesOfRecords(c);
        wrongSizes(c);
        closed(c);
        sealing(c);
        full(c);
        numbers(c);
        filesAfterMerges(c);
        c.end();
    }

    private static void bytesOfRecords(Check c) {
        AppendStore x = new AppendStore();
        x.put(0xFFFFFFFFFFFFFF61L, 1, 0x1234567805L, 1);
        x.put(0x7F80818283L, 4, -2, 8);
        x.put(0x0102L, 2, 99, 0);
        x.put(0x61, 1, 0x010203, 3);
        c.bytes("records", x, 0, false, Check.join(
                Check.summed(0, 0, 1, 1, 0x61, 5),
                Check.summed(0, 1, 4, 8, 0x80, 0x81, 0x82, 0x83, 255, 255, 255, 255, 255, 255, 255, 254),
                Check.summed(0, 2, 2, 0, 1, 2),
                Check.summed(0, 3, 1, 3, 0x61, 1, 2, 3)));
        c.is("keys()", x.keys(), 3);
        c.is("get of the later value", x.get(0x61, 1), 0x010203);
        c.is("its place", x.key(1, 3), 40);
        c.is("synced", x.file(0, 2), 0);
    }

    private static void wrongSizes(Check c) {
        AppendStore x = new AppendStore();
        for (int size : new int[] {0, 5, -1, 8, 257, Integer.MIN_VALUE, Integer.MAX_VALUE}) {
            c.refusesAct(Check.ARGUMENT, "put with a key of " + size, () -> x.put(1, size, 1, 1));
        }
        for (int size : new int[] {-1, 9, 255, 256, Integer.MIN_VALUE, Integer.MAX_VALUE}) {
            c.refusesAct(Check.ARGUMENT, "put with a value of " + size, () -> x.put(1, 1, 1, size));
        }
        c.is("files()", x.files(), 0);
        x.put(1, 1, 1, 1);
        c.is("time counts no refused put", x.octet(0, 5, false), 0);
    }

    private static void closed(Check c) {
        AppendStore x = new AppendStore();
        x.put(1, 1, 1, 1);
        x.lose(100);
        c.refusesAct(Check.STATE, "put when closed", () -> x.put(1, 1, 1, 1));
        c.refusesAct(Check.ARGUMENT, "put with a wrong size when closed", () -> x.put(1, 0, 1, 1));
        c.refusesAct(Check.ARGUMENT, "put with a wrong value size when closed", () -> x.put(1, 1, 1, 9));
        c.is("bytes", x.file(0, 1), 10);
        x.open(false);
        x.put(2, 1, 2, 1);
        c.is("nothing is active after opening", x.file(1, 0), 2);
        c.is("time goes on after opening", x.octet(1, 5, false), 1);
    }

    private static void sealing(Check c) {
        AppendStore x = new AppendStore();
        Check.fill(x, 0, 5);
        x.put(5, 1, 7, 6);
        c.is("exactly 100 bytes fit", x.file(0, 1), 100);
        c.is("files()", x.files(), 1);
        c.is("not synced yet", x.file(0, 2), 0);
        x.put(6, 1, 0, 0);
        c.is("files() when it is sealed", x.files(), 2);
        c.is("synced by sealing", x.file(0, 2), 100);
        c.is("the new one is not synced", x.file(1, 2), 0);
        c.is("its number", x.file(1, 0), 2);
        c.is("its bytes", x.file(1, 1), 9);

        AppendStore y = new AppendStore();
        Check.fill(y, 0, 5);
        y.put(5, 1, 7, 7);
        c.is("101 bytes do not fit", y.files(), 2);
        c.is("the first keeps 85", y.file(0, 1), 85);
    }

    private static void full(Check c) {
        AppendStore x = Check.full();
        c.is("files()", x.files(), 6);
        x.sync();
        x.put(50, 1, 0, 1);
        c.is("what still fits", x.file(5, 1), 95);
        c.refusesAct(Check.UNSUPPORTED, "put when full", () -> x.put(0, 1, 5, 8));
        c.is("nothing is synced", x.file(5, 2), 85);
        c.is("nothing is sealed: its bytes", x.file(5, 1), 95);
        c.is("the value stays", x.get(0, 1), 1000);
        c.is("keys()", x.keys(), 31);
        c.refusesAct(Check.ARGUMENT, "put with a wrong size when full", () -> x.put(0, 1, 5, 9));
        x.lose(5);
        c.is("the last file was active still", x.file(5, 1), 90);
        x.open(true);
        c.refusesAct(Check.UNSUPPORTED, "put with six sealed files", () -> x.put(0, 1, 5, 0));
        Check.mergeAll(x);
        c.refusesAct(Check.UNSUPPORTED, "put after a merge that saved nothing", () -> x.put(0, 1, 5, 0));

        AppendStore y = Check.full();
        c.refusesAct(Check.UNSUPPORTED, "put when full", () -> y.put(0, 1, 5, 8));
        y.put(0, 1, 5, 1);
        c.is("time counts no put that was full", y.octet(5, 85 + 5, false), 30);
    }

    private static void numbers(Check c) {
        AppendStore x = new AppendStore();
        Check.fill(x, 0, 11);
        c.is("open", x.open(true), 11);
        for (int i = 0; i < 11; i++) {
            x.delete(i, 1);
        }
        c.is("files()", x.files(), 4);
        x.open(false);
        c.is("files() with the tombstones", x.files(), 4);
        Check.mergeAll(x);
        c.is("nothing is left", x.files(), 0);
        x.put(1, 1, 1, 1);
        c.is("a number that never was", x.file(0, 0), 5);
        x.open(false);
        x.put(2, 1, 1, 1);
        x.open(false);
        c.is("merged to one", x.merge(20), true);
        c.is("with the lower number", x.file(0, 0), 5);
        x.put(3, 1, 1, 1);
        c.is("numbers that are gone do not come back", x.file(1, 0), 7);
    }

    /** A file that begins has nothing of one that is gone. */
    private static void filesAfterMerges(Check c) {
        AppendStore x = new AppendStore();
        for (int round = 0; round < 8; round++) {
            for (int i = 0; i < 20; i++) {
                x.put(i % 7, 1, 100 * round + i, 8);
            }
            int last = x.files() - 1;
            c.is("bytes of the active file", x.file(last, 1), 85);
            c.is("synced of the active file", x.file(last, 2), 0);
            c.is("hint of the active file", x.file(last, 4), 0);
            c.is("number of the active file", x.file(last, 0), 4 * round + 4);
            for (int k = 0; k <= last; k++) {
                c.is("files are in order", k == 0 || x.file(k, 0) > x.file(k - 1, 0), true);
            }
            x.open(true);
            Check.mergeAll(x);
            c.is("merged to two", x.files(), 2);
            c.is("hint of the first", x.file(0, 4), 34);
            c.is("hint of the second", x.file(1, 4), 16);
            for (int i = 0; i < 7; i++) {
                c.is("get(" + i + ")", x.get(i, 1), 100 * round + i + (i < 6 ? 14 : 7));
            }
        }
    }
}
