/** Promises 11 to 14. */
public final class FilesTest {
    public static void main(String[] args) {
        Check c = new Check();
        counts(c);
        shortestRecords(c);
        wrongFiles(c);
        octets(c);
        spoils(c);
        closedFiles(c);
        c.end();
    }

    private static void counts(Check c) {
        AppendStore x = new AppendStore();
        for (int i = 0; i < 30; i++) {
            c.is("files() before put " + i, x.files(), (i + 4) / 5);
            x.put(i, 1, 1, 8);
        }
        for (int k = 0; k < 6; k++) {
            c.is("number", x.file(k, 0), k + 1);
            c.is("bytes", x.file(k, 1), 85);
            c.is("synced", x.file(k, 2), k < 5 ? 85 : 0);
            c.is("live", x.file(k, 3), 85);
            c.is("hint", x.file(k, 4), 0);
        }
        x.put(0, 1, 1, 0);
        c.is("live in the first", x.file(0, 3), 68);
        c.is("live in the last", x.file(5, 3), 94);
        x.lose(0);
        c.is("files() when closed", x.files(), 6);
        c.is("live when closed", x.file(0, 3), 0);
        c.is("bytes when closed", x.file(0, 1), 85);
        c.is("number when closed", x.file(5, 0), 6);
        x.open(true);
        c.is("live when opened", x.file(0, 3), 85);
        c.is("the last one is empty", x.file(5, 1), 0);
        c.is("merge", x.merge(20), false);
        c.is("merge", x.merge(20), true);
        c.is("files() after", x.files(), 5);
        c.is("hint after", x.file(4, 4), 34);
        x.lose(0);
        c.is("hint when closed", x.file(4, 4), 34);
        c.is("octet when closed", x.octet(4, 5, true), 20);
    }

    /** As many records as a file can have. */
    private static void shortestRecords(Check c) {
        AppendStore x = new AppendStore();
        for (int i = 0; i < 11; i++) {
            x.put(i, 1, 0, 0);
        }
        c.is("files()", x.files(), 1);
        c.is("bytes of eleven records", x.file(0, 1), 99);
        c.is("live bytes of eleven records", x.file(0, 3), 99);
        c.is("delete", x.delete(10, 1), true);
        c.is("live bytes of ten", x.file(0, 3), 90);
        c.is("a tombstone is not live", x.file(1, 3), 0);
        c.is("open", x.open(false), 10);
        c.is("live bytes of ten when opened", x.file(0, 3), 90);
        c.is("merge", x.merge(12), true);
        c.is("live bytes of the copies", x.file(0, 3), 90);
        c.is("files() after", x.files(), 1);
    }

    private static void closedFiles(Check c) {
        c.says("how many are of live records (0 when closed)");
        AppendStore x = new AppendStore();
        Check.fill(x, 0, 6);
        c.is("live when open", x.file(0, 3), 85);
        c.is("live in the active file", x.file(1, 3), 17);
        x.lose(100);
        c.is("live when closed", x.file(0, 3), 0);
        c.is("live in what was the active file", x.file(1, 3), 0);
        c.is("number when closed", x.file(1, 0), 2);
        c.is("bytes when closed", x.file(1, 1), 17);
        c.is("synced when closed", x.file(1, 2), 17);
        c.is("files() when closed", x.files(), 2);
        x.open(false);
        c.is("live when open again", x.file(0, 3), 85);
        c.says("there is no such file or what");
        c.refuses(Check.ARGUMENT, "file(2, 0)", () -> x.file(2, 0));
        c.refuses(Check.ARGUMENT, "file(1, 5)", () -> x.file(1, 5));
        x.lose(0);
        c.refuses(Check.ARGUMENT, "file(2, 0) when closed", () -> x.file(2, 0));
        c.refuses(Check.ARGUMENT, "file(1, -1) when closed", () -> x.file(1, -1));
    }

    private static void wrongFiles(Check c) {
        AppendStore x = new AppendStore();
        Check.fill(x, 0, 6);
        for (int k : new int[] {-1, 2, 5, 6, Integer.MIN_VALUE, Integer.MAX_VALUE}) {
            c.refuses(Check.ARGUMENT, "file(" + k + ", 0)", () -> x.file(k, 0));
            c.refuses(Check.ARGUMENT, "octet(" + k + ", 0)", () -> x.octet(k, 0, false));
            c.refusesAct(Check.ARGUMENT, "spoil(" + k + ", 0)", () -> x.spoil(k, 0, false, 1));
        }
        for (int what : new int[] {-1, 5, Integer.MIN_VALUE, Integer.MAX_VALUE}) {
            c.refuses(Check.ARGUMENT, "file(0, " + what + ")", () -> x.file(0, what));
        }
        for (int i : new int[] {-1, 85, 99, 100, Integer.MIN_VALUE, Integer.MAX_VALUE}) {
            c.refuses(Check.ARGUMENT, "octet(0, " + i + ")", () -> x.octet(0, i, false));
            c.refusesAct(Check.ARGUMENT, "spoil(0, " + i + ")", () -> x.spoil(0, i, false, 1));
        }
        c.refuses(Check.ARGUMENT, "octet of no hint", () -> x.octet(0, 0, true));
        c.refusesAct(Check.ARGUMENT, "spoil of no hint", () -> x.spoil(0, 0, true, 1));
        x.merge(20);
        c.is("the last byte of a hint", x.octet(0, 33, true), Check.sum(
                0, 0, 1, 8, 0, 0, 0, 1, 1, 8, 17, 1, 0, 2, 1, 8, 34, 2, 0, 3, 1, 8, 51, 3, 0, 4, 1, 8, 68, 4)[3]);
        c.refuses(Check.ARGUMENT, "octet behind a hint", () -> x.octet(0, 34, true));
        c.refusesAct(Check.ARGUMENT, "spoil behind a hint", () -> x.spoil(0, 34, true, 1));
        c.refuses(Check.ARGUMENT, "octet before a hint", () -> x.octet(0, -1, true));
        x.lose(3);
        c.is("what is left", x.octet(1, 2, false) >= 0, true);
        c.refuses(Check.ARGUMENT, "octet that was lost", () -> x.octet(1, 3, false));
    }

    private static void octets(Check c) {
        AppendStore x = new AppendStore();
        x.put(0x80FF, 2, 0xFE7F, 2);
        int[] due = Check.summed(0, 0, 2, 2, 0x80, 0xFF, 0xFE, 0x7F);
        c.bytes("record", x, 0, false, due);
        x.open(false);
        c.bytes("record when opened", x, 0, false, due);
        x.merge(1);
        c.bytes("record when merged", x, 0, false, due);
        c.bytes("hint", x, 0, true, Check.hint(0, 0, 2, 2, 0, 0x80, 0xFF));
    }

    private static void spoils(Check c) {
        AppendStore x = new AppendStore();
        x.put(0x55, 1, 1, 1);
        x.spoil(0, 8, false, 0xFF);
        c.is("all bits", x.octet(0, 8, false), 0xAA);
        x.spoil(0, 8, false, 0);
        c.is("no bits", x.octet(0, 8, false), 0xAA);
        x.spoil(0, 8, false, 0x7F01);
        c.is("only the lowest 8", x.octet(0, 8, false), 0xAB);
        x.spoil(0, 8, false, -256 + 0xFE);
        c.is("of a negative number too", x.octet(0, 8, false), 0x55);
        c.is("the next byte", x.octet(0, 9, false), 1);
        c.is("get", x.get(0x55, 1), 1);
        x.sync();
        x.lose(0);
        x.spoil(0, 9, false, 2);
        c.is("spoilt when closed", x.octet(0, 9, false), 3);
        c.is("open", x.open(true), 0);

        AppendStore y = new AppendStore();
        y.put(1, 1, 1, 1);
        y.open(false);
        y.merge(1);
        y.spoil(0, 4, true, 0x81);
        c.is("the hint's byte", y.octet(0, 4, true), 0x81);
        c.is("not the file's", y.octet(0, 4, false), 0);
        c.is("get", y.get(1, 1), 1);
    }
}
