/** Promise 10. */
public final class MergeTest {
    public static void main(String[] args) {
        Check c = new Check();
        wrongCalls(c);
        steps(c);
        outputs(c);
        changesMeanwhile(c);
        takenFiles(c);
        emptyFiles(c);
        spoiltRecords(c);
        c.end();
    }

    private static void wrongCalls(Check c) {
        AppendStore x = new AppendStore();
        x.put(1, 1, 1, 1);
        c.refuses(Check.STATE, "merge without a sealed file", () -> x.merge(1));
        for (int records : new int[] {0, 21, -1, Integer.MIN_VALUE, Integer.MAX_VALUE}) {
            c.refuses(Check.ARGUMENT, "merge(" + records + ")", () -> x.merge(records));
        }
        x.lose(100);
        c.refuses(Check.STATE, "merge when closed", () -> x.merge(1));
        c.refuses(Check.ARGUMENT, "merge(0) when closed", () -> x.merge(0));
        x.open(false);
        c.is("merge(1)", x.merge(1), true);
    }

    private static void steps(Check c) {
        AppendStore x = Check.full();
        c.is("25 records, 20 of them", x.merge(20), false);
        c.is("and 4", x.merge(4), false);
        c.is("and the last", x.merge(1), true);
        c.is("another merge", x.merge(20), false);
        c.is("5 more", x.merge(5), true);

        AppendStore y = new AppendStore();
        Check.fill(y, 0, 5);
        Check.fill(y, 0, 5);
        y.delete(0, 1);
        Check.fill(y, 0, 5);
        c.is("files()", y.files(), 3);
        c.is("records that are not live count", y.merge(10), false);
        c.is("a tombstone too", y.merge(1), true);
        c.is("nothing was live: only the active one stays", y.files(), 1);
        c.is("keys()", y.keys(), 5);
    }

    private static void outputs(Check c) {
        AppendStore x = new AppendStore();
        Check.fill(x, 0, 10);
        Check.fill(x, 1, 3);
        Check.fill(x, 5, 1);
        x.open(false);
        x.put(40, 1, 1, 1);
        c.is("files()", x.files(), 4);
        c.is("merge", x.merge(20), true);
        c.is("files() after", x.files(), 3);
        c.is("first number", x.file(0, 0), 1);
        c.is("second number", x.file(1, 0), 2);
        c.is("third number", x.file(2, 0), 4);
        c.is("first bytes", x.file(0, 1), 85);
        c.is("second bytes", x.file(1, 1), 85);
        c.is("first synced", x.file(0, 2), 85);
        c.is("first live", x.file(0, 3), 85);
        c.is("no hint for the active one", x.file(2, 4), 0);
        c.bytes("hint", x, 0, true, Check.hint(
                0, 0, 1, 8, 0, 0, 0, 4, 1, 8, 17, 4, 0, 6, 1, 8, 34, 6, 0, 7, 1, 8, 51, 7, 0, 8, 1, 8, 68, 8));
        c.bytes("bytes of the copies", x, 1, false, Check.join(
                Check.summed(0, 9, 1, 8, 9, 0, 0, 0, 0, 0, 0, 1000 >> 8, 1009 & 255),
                Check.summed(0, 10, 1, 8, 1, 0, 0, 0, 0, 0, 0, 1000 >> 8, 1001 & 255),
                Check.summed(0, 11, 1, 8, 2, 0, 0, 0, 0, 0, 0, 1000 >> 8, 1002 & 255),
                Check.summed(0, 12, 1, 8, 3, 0, 0, 0, 0, 0, 0, 1000 >> 8, 1003 & 255),
                Check.summed(0, 13, 1, 8, 5, 0, 0, 0, 0, 0, 0, 1000 >> 8, 1005 & 255)));
        for (int i = 0; i < 10; i++) {
            c.is("get(" + i + ")", x.get(i, 1), 1000 + i);
        }
        c.is("keys()", x.keys(), 11);
        x.put(41, 1, 1, 1);
        c.is("the active file is active still", x.file(2, 1), 20);
        x.lose(0);
        c.is("the outputs are synced", x.open(true), 10);
    }

    private static void changesMeanwhile(Check c) {
        AppendStore x = new AppendStore();
        Check.fill(x, 0, 6);
        c.is("merge(2)", x.merge(2), false);
        x.put(0, 1, 5, 1);
        x.delete(1, 1);
        x.put(3, 1, 6, 1);
        x.delete(4, 1);
        c.is("the files are as they were", x.file(0, 1), 85);
        c.is("without a hint", x.file(0, 4), 0);
        c.is("merge(3)", x.merge(3), true);
        c.is("copied: 0, 1 and 2", x.file(0, 1), 51);
        c.is("live: 2", x.file(0, 3), 17);
        c.is("hint", x.file(0, 4), 22);
        c.is("keys()", x.keys(), 4);
        c.is("get(0)", x.get(0, 1), 5);
        c.is("file of key 0", x.key(0, 2), 2);
        c.refuses(Check.NONE, "get(1)", () -> x.get(1, 1));
        c.is("get(2)", x.get(2, 1), 1002);
        c.is("place of key 2", x.key(1, 3), 34);
        c.is("get(3)", x.get(3, 1), 6);
        c.is("open(true)", x.open(true), 4);
        c.is("get(0) then", x.get(0, 1), 5);
        c.is("merge of all", x.merge(20), true);
        c.is("one file is left", x.files(), 1);
        c.is("its bytes", x.file(0, 1), 17 + 17 + 10 + 10);
    }

    private static void takenFiles(Check c) {
        AppendStore x = new AppendStore();
        Check.fill(x, 0, 6);
        c.is("merge(1)", x.merge(1), false);
        Check.fill(x, 10, 10);
        c.is("files sealed meanwhile", x.files(), 4);
        c.is("are not taken", x.merge(4), true);
        c.is("hint of the first", x.file(0, 4), 34);
        c.is("no hint of the second", x.file(1, 4), 0);
        c.is("bytes of the second", x.file(1, 1), 85);
        c.is("keys()", x.keys(), 16);

        AppendStore y = Check.full();
        y.delete(0, 1);
        c.is("outputs are no files before they are published", y.merge(20), false);
        c.is("files()", y.files(), 6);
        c.refusesAct(Check.UNSUPPORTED, "put when full", () -> y.put(1, 1, 1, 8));
        c.is("merge", y.merge(20), true);
        c.is("files() after", y.files(), 6);

        AppendStore z = Check.full();
        z.put(0, 1, 1, 6);
        c.is("merge", z.merge(20), false);
        c.is("merge", z.merge(20), true);
        c.is("24 of 25", z.files(), 6);
        c.is("the last output has 4", z.file(4, 1), 68);
        for (int i = 0; i < 30; i++) {
            c.is("get(" + i + ")", z.get(i, 1), i == 0 ? 1 : 1000 + i);
        }
    }

    private static void emptyFiles(Check c) {
        AppendStore x = new AppendStore();
        x.put(1, 1, 1, 1);
        x.lose(0);
        x.open(false);
        c.is("an empty file", x.files(), 1);
        c.is("merge of no records", x.merge(1), true);
        c.is("it is gone", x.files(), 0);
        c.refuses(Check.STATE, "merge of nothing", () -> x.merge(1));
        c.is("keys()", x.keys(), 0);

        x.put(2, 1, 2, 1);
        x.open(false);
        x.put(3, 1, 3, 1);
        x.lose(0);
        x.open(false);
        c.is("a file with a record, then an empty one", x.files(), 2);
        c.is("the last record is the last that is come to", x.merge(1), true);
        c.is("files()", x.files(), 1);
        c.is("number", x.file(0, 0), 2);
        c.is("get(2)", x.get(2, 1), 2);
    }

    private static void spoiltRecords(Check c) {
        AppendStore x = new AppendStore();
        Check.fill(x, 0, 6);
        x.spoil(0, 8, false, 64);
        x.spoil(0, 17 + 6, false, 3);
        x.spoil(0, 34 + 9, false, 1);
        c.is("merge(4)", x.merge(4), false);
        x.spoil(0, 51, false, 1);
        x.spoil(0, 68 + 4, false, 7);
        c.is("merge(1)", x.merge(1), true);
        c.is("broken records are copied", x.file(0, 1), 85);
        c.is("a key's byte as it was", x.octet(0, 8, false), 64);
        c.is("in the hint too", x.octet(0, 5, true), 64);
        c.is("a key's size in the hint", x.octet(0, 6 + 2, true), 2);
        c.is("the entry has one byte of a key", x.octet(0, 6 + 5, true), 1);
        c.is("the next entry's place", x.octet(0, 12 + 4, true), 34);
        c.is("hint", x.file(0, 4), 34);
        c.is("time in the hint", x.octet(0, 24, true), 7);
        c.refuses(Check.UNSUPPORTED, "get(0)", () -> x.get(0, 1));
        c.refuses(Check.UNSUPPORTED, "get(1)", () -> x.get(1, 1));
        c.refuses(Check.UNSUPPORTED, "get(2)", () -> x.get(2, 1));
        c.is("what was spoilt after it was copied", x.get(3, 1), 1003);
        c.refuses(Check.UNSUPPORTED, "get(4)", () -> x.get(4, 1));
        c.is("live bytes", x.file(0, 3), 85);
        c.is("the hint has a wrong size, the record a wrong sum", x.open(true), 1);
    }
}
