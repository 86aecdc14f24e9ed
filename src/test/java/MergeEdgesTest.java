/** The sentences about merges, each with its edges. */
public final class MergeEdgesTest {
    public static void main(String[] args) {
        Check c = new Check();
        range(c);
        noSealedFile(c);
        soManyRecordsMore(c);
        allSteps(c);
        recordsThatAreNotLive(c);
        noRecords(c);
        filesThatAreSealed(c);
        liveWhenComeTo(c);
        outputsOfHundredBytes(c);
        latestOutput(c);
        allItsBytes(c);
        lowestNumbersFirst(c);
        nothingIsLive(c);
        publishedAtOnce(c);
        sealedAndSynced(c);
        anotherRecordSince(c);
        deletedSince(c);
        c.end();
    }

    private static void range(Check c) {
        c.says("comes to so many records more (1 .. 20)");
        for (int wrong : new int[] {0, 21, -1, -20, 256, 257, Integer.MIN_VALUE, Integer.MAX_VALUE}) {
            AppendStore x = new AppendStore();
            c.refuses(Check.ARGUMENT, "merge(" + wrong + ") without files", () -> x.merge(wrong));
            x.put(1, 1, 0, 0);
            x.put(2, 1, 0, 0);
            x.open(false);
            c.refuses(Check.ARGUMENT, "merge(" + wrong + ")", () -> x.merge(wrong));
            c.is("merge(1)", x.merge(1), false);
            c.refuses(Check.ARGUMENT, "merge(" + wrong + ") while it goes on", () -> x.merge(wrong));
            c.is("merge(1) that goes on", x.merge(1), true);
            x.lose(0);
            c.refuses(Check.ARGUMENT, "merge(" + wrong + ") when closed", () -> x.merge(wrong));
        }
    }

    private static void noSealedFile(Check c) {
        c.says("IllegalStateException: closed, or there is no sealed file when it would begin");
        AppendStore x = new AppendStore();
        c.refuses(Check.STATE, "merge without files", () -> x.merge(1));
        x.put(1, 1, 0, 0);
        c.refuses(Check.STATE, "merge with an active file alone", () -> x.merge(20));
        x.sync();
        c.refuses(Check.STATE, "merge with a synced active file", () -> x.merge(20));
        x.lose(0);
        c.refuses(Check.STATE, "merge when closed", () -> x.merge(1));
        x.open(false);
        c.is("merge with a sealed file", x.merge(1), true);
        c.is("merge with a merged file", x.merge(1), true);
        x.delete(1, 1);
        c.is("merge of what is not live", x.merge(1), true);
        c.is("the active file alone", x.files(), 1);
        c.refuses(Check.STATE, "merge then", () -> x.merge(1));
    }

    private static void soManyRecordsMore(Check c) {
        c.says("comes to so many records more");
        AppendStore x = sealed(20);
        c.is("merge(20) of 20", x.merge(20), true);
        AppendStore y = sealed(21);
        c.is("merge(20) of 21", y.merge(20), false);
        c.is("merge(1) of the last", y.merge(1), true);
        AppendStore z = sealed(21);
        c.is("merge(19) of 21", z.merge(19), false);
        c.is("merge(1) of two", z.merge(1), false);
        c.is("merge(20) of the last", z.merge(20), true);
    }

    /** A store of so many records, all sealed. */
    private static AppendStore sealed(int records) {
        AppendStore x = new AppendStore();
        for (int i = 0; i < records; i++) {
            x.put(i, 1, i, 1);
        }
        x.open(false);
        return x;
    }

    private static void allSteps(Check c) {
        c.says("When all were come to, it is PUBLISHED");
        for (int step = 1; step <= 20; step++) {
            AppendStore x = sealed(23);
            for (int come = step; come < 23; come += step) {
                c.is("merge(" + step + ") that comes to " + come, x.merge(step), false);
                c.is("hint of the first file", x.file(0, 4), 0);
            }
            c.is("the last merge(" + step + ")", x.merge(step), true);
            c.is("hint of the first file", x.file(0, 4), 64);
            c.is("keys()", x.keys(), 23);
        }
    }

    private static void recordsThatAreNotLive(Check c) {
        c.says("their records, in order: each one that is live when it is come to");
        AppendStore x = new AppendStore();
        x.put(1, 1, 1, 1);
        x.put(1, 1, 2, 1);
        x.put(2, 1, 3, 1);
        x.delete(2, 1);
        x.open(false);
        for (int i = 0; i < 3; i++) {
            c.is("record " + i, x.merge(1), false);
        }
        c.is("the tombstone", x.merge(1), true);
        c.is("bytes of the output", x.file(0, 1), 10);
        c.is("get", x.get(1, 1), 2);
        c.is("open", x.open(false), 1);
    }

    private static void noRecords(Check c) {
        c.says("When all were come to, it is PUBLISHED");
        AppendStore x = new AppendStore();
        for (int i = 0; i < 3; i++) {
            x.put(1, 1, 1, 1);
            x.lose(0);
            x.open(true);
        }
        c.is("three empty files", x.files(), 3);
        c.is("merge of no records", x.merge(1), true);
        c.is("they are gone", x.files(), 0);

        AppendStore y = new AppendStore();
        y.put(1, 1, 1, 1);
        y.lose(0);
        y.open(true);
        y.put(2, 1, 2, 1);
        y.open(true);
        y.put(3, 1, 3, 1);
        y.lose(0);
        y.open(true);
        c.is("an empty file in front and one behind", y.merge(1), true);
        c.is("files()", y.files(), 1);
        c.is("the lowest number", y.file(0, 0), 1);
        c.is("get", y.get(2, 1), 2);
    }

    private static void filesThatAreSealed(Check c) {
        c.says("A MERGE takes all files that are sealed when it begins");
        AppendStore x = new AppendStore();
        Check.fill(x, 0, 12);
        c.is("merge(9) of 10", x.merge(9), false);
        Check.fill(x, 20, 4);
        c.is("the third was sealed since", x.files(), 4);
        c.is("merge(1) of 10", x.merge(1), true);
        c.is("the second is merged", x.file(1, 4), 34);
        c.is("the third is not", x.file(2, 4), 0);
        c.is("merge of three", x.merge(14), false);
        c.is("its last record", x.merge(1), true);
        c.is("the third is merged now", x.file(2, 4), 34);
        c.is("the active one is not", x.file(3, 4), 0);
        c.is("the active one has not changed", x.file(3, 1), 17);
        c.is("nor is it synced", x.file(3, 2), 0);
    }

    private static void liveWhenComeTo(Check c) {
        c.says("each one that is live when it is come to is copied");
        for (int come = 0; come <= 4; come++) {
            AppendStore x = new AppendStore();
            Check.fill(x, 0, 5);
            x.open(false);
            if (come > 0) {
                c.is("merge(" + come + ")", x.merge(come), false);
            }
            x.put(0, 1, 1, 1);
            x.delete(2, 1);
            c.is("the rest", x.merge(5 - come), true);
            int copies = 3 + (come > 0 ? 1 : 0) + (come > 2 ? 1 : 0);
            c.is("bytes with changes behind " + come, x.file(0, 1), 17 * copies);
            c.is("live bytes with changes behind " + come, x.file(0, 3), 51);
            c.is("get of the new value", x.get(0, 1), 1);
            c.refuses(Check.NONE, "get of what was deleted", () -> x.get(2, 1));
        }
    }

    private static void outputsOfHundredBytes(Check c) {
        c.says("when it does not fit into the latest output (100 bytes), or there is none, a new output begins");
        for (int before = 80; before <= 100; before++) {
            for (int record = 9; record <= 20; record++) {
                AppendStore x = new AppendStore();
                Check.putFive(x, before);
                x.open(false);
                Check.putRecord(x, -1, record);
                x.open(false);
                c.is("merge", x.merge(6), true);
                boolean fits = before + record <= 100;
                String call = "a merge of " + before + " and " + record;
                c.is("files() after " + call, x.files(), fits ? 1 : 2);
                c.is("bytes after " + call, x.file(0, 1), fits ? before + record : before);
                c.is("place of the last after " + call, x.key(x.keys() - 1, 3), fits ? before : 0);
            }
        }
    }

    private static void latestOutput(Check c) {
        c.says("when it does not fit into the latest output");
        AppendStore x = new AppendStore();
        Check.fill(x, 10, 5);
        x.open(false);
        Check.putFive(x, 100);
        x.open(false);
        x.put(99, 1, 0, 0);
        x.open(false);
        c.is("merge", x.merge(11), true);
        c.is("three outputs", x.files(), 3);
        c.is("the first has room, but is not the latest", x.file(0, 1), 85);
        c.is("the second has none", x.file(1, 1), 100);
        c.is("the third", x.file(2, 1), 9);
    }

    private static void allItsBytes(Check c) {
        c.says("is copied, with all its bytes");
        AppendStore x = new AppendStore();
        x.put(1, 1, 0, 0);
        x.put(0x0203, 2, 0x1122334455667788L, 8);
        x.delete(1, 1);
        x.open(false);
        x.spoil(0, 9 + 4, false, 0x40);
        x.spoil(0, 9 + 0, false, 0x01);
        int[] due = new int[18];
        for (int i = 0; i < 18; i++) {
            due[i] = x.octet(0, 9 + i, false);
        }
        c.is("merge", x.merge(3), true);
        c.bytes("the copy, broken as it was", x, 0, false, due);
        c.refuses(Check.UNSUPPORTED, "get of it", () -> x.get(0x0203, 2));
        x.spoil(0, 4, false, 0x40);
        x.spoil(0, 0, false, 0x01);
        c.is("get of it when it is mended", x.get(0x0203, 2), 0x1122334455667788L);
    }

    private static void lowestNumbersFirst(Check c) {
        c.says("the outputs are files with their numbers, the lowest first (so many as there are)");
        AppendStore x = new AppendStore();
        for (int i = 0; i < 3; i++) {
            Check.putFive(x, 100);
            x.open(false);
        }
        x.merge(15);
        c.is("one file of three", x.files(), 1);
        c.is("its number", x.file(0, 0), 1);
        for (int i = 0; i < 3; i++) {
            Check.fill(x, 10 + 5 * i, 5);
            x.open(false);
        }
        c.is("numbers 1, 4, 5 and 6", x.file(1, 0) * 100 + x.file(2, 0) * 10 + x.file(3, 0), 456);
        Check.fill(x, 10, 3);
        x.delete(13, 1);
        x.delete(14, 1);
        c.is("merge of 1, 4, 5 and 6", x.merge(20), true);
        c.is("files() then", x.files(), 4);
        c.is("the first number", x.file(0, 0), 1);
        c.is("the second", x.file(1, 0), 4);
        c.is("the third", x.file(2, 0), 5);
        c.is("the active one's", x.file(3, 0), 7);
        c.is("file of a key that was in 6", x.key(x.keys() - 1, 2), 5);
        c.is("number of that key", x.key(x.keys() - 1, 1), 24);
    }

    private static void nothingIsLive(Check c) {
        c.says("the files that were taken are gone; the outputs are files (so many as there are)");
        AppendStore x = sealed(3);
        for (int i = 0; i < 3; i++) {
            x.delete(i, 1);
        }
        x.open(false);
        c.is("merge of what is not live", x.merge(6), true);
        c.is("files()", x.files(), 0);
        c.is("keys()", x.keys(), 0);
        c.refuses(Check.ARGUMENT, "file(0, 0)", () -> x.file(0, 0));
        c.refuses(Check.STATE, "merge then", () -> x.merge(1));
        c.is("open", x.open(true), 0);
    }

    private static void publishedAtOnce(Check c) {
        c.says("When all were come to, it is PUBLISHED");
        AppendStore x = new AppendStore();
        x.put(1, 1, 1, 1);
        x.put(2, 1, 2, 1);
        x.delete(1, 1);
        x.open(false);
        x.put(3, 1, 3, 1);
        String before = View.of(x);
        c.is("merge(1)", x.merge(1), false);
        c.is("all that is seen after one", View.of(x), before);
        c.is("merge(1)", x.merge(1), false);
        c.is("all that is seen after two", View.of(x), before);
        c.is("merge(1)", x.merge(1), true);
        c.is("bytes then", x.file(0, 1), 10);
        c.is("hint then", x.file(0, 4), 10);
    }

    private static void sealedAndSynced(Check c) {
        c.says("all are sealed and synced, and have hints");
        AppendStore x = sealed(23);
        Check.mergeAll(x);
        c.is("files()", x.files(), 3);
        for (int k = 0; k < 3; k++) {
            c.is("bytes", x.file(k, 1), k < 2 ? 100 : 30);
            c.is("synced", x.file(k, 2), k < 2 ? 100 : 30);
            c.is("live", x.file(k, 3), k < 2 ? 100 : 30);
            c.is("hint", x.file(k, 4), k < 2 ? 64 : 22);
        }
        x.put(99, 1, 0, 0);
        c.is("the last output is not appended to", x.file(2, 1), 30);
        c.is("a new file is", x.file(3, 1), 9);
        x.lose(0);
        c.is("nothing of them is lost", x.open(true), 23);
    }

    private static void anotherRecordSince(Check c) {
        c.says("a key that got another record since has that one");
        AppendStore x = sealed(3);
        c.is("merge(2)", x.merge(2), false);
        x.put(0, 1, 50, 1);
        x.put(1, 1, 51, 1);
        x.delete(1, 1);
        x.put(1, 1, 52, 1);
        c.is("merge(1)", x.merge(1), true);
        c.is("copies", x.file(0, 1), 30);
        c.is("live ones", x.file(0, 3), 10);
        c.is("get(0)", x.get(0, 1), 50);
        c.is("file of 0", x.key(0, 2), 2);
        c.is("place of 0", x.key(0, 3), 0);
        c.is("get(1)", x.get(1, 1), 52);
        c.is("place of 1", x.key(1, 3), 29);
        c.is("get(2)", x.get(2, 1), 2);
        c.is("file of 2", x.key(2, 2), 1);
        c.is("place of 2", x.key(2, 3), 20);
        x.lose(0);
        c.is("open when the others are lost", x.open(true), 3);
        c.is("the copy is the latest then", x.get(0, 1), 0);
    }

    private static void deletedSince(Check c) {
        c.says("the directory has the copies of those records that it had still");
        AppendStore x = sealed(3);
        c.is("merge(2)", x.merge(2), false);
        x.delete(0, 1);
        x.delete(2, 1);
        c.is("merge(1)", x.merge(1), true);
        c.is("keys()", x.keys(), 1);
        c.is("copies", x.file(0, 1), 20);
        c.is("live ones", x.file(0, 3), 10);
        c.refuses(Check.NONE, "get(0)", () -> x.get(0, 1));
        c.refuses(Check.NONE, "get(2)", () -> x.get(2, 1));
        c.is("delete of what has no value", x.delete(0, 1), false);
        c.is("open", x.open(true), 1);
    }
}
