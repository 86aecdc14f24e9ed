/** The sentences about how long files are, how many there are, and when the store is full. */
public final class RoomTest {
    public static void main(String[] args) {
        Check c = new Check();
        hundredBytes(c);
        hundredBytesOfTombstones(c);
        nothingIsActive(c);
        sealing(c);
        numbers(c);
        sixFiles(c);
        fullWithAnActiveFile(c);
        fullWithoutAnActiveFile(c);
        fullInDelete(c);
        nothingIsDone(c);
        roomAgain(c);
        fullWhileMerging(c);
        c.end();
    }

    private static void hundredBytes(Check c) {
        c.says("FILES have .. at most 100 bytes .. the record would make it longer than 100");
        for (int before = 80; before <= 100; before++) {
            for (int record = 9; record <= 20; record++) {
                AppendStore x = new AppendStore();
                Check.putFive(x, before);
                Check.putRecord(x, -1, record);
                String call = "put of " + record + " bytes behind " + before;
                boolean fits = before + record <= 100;
                c.is("files() after " + call, x.files(), fits ? 1 : 2);
                c.is("bytes of the first after " + call, x.file(0, 1), fits ? before + record : before);
                c.is("place after " + call, x.key(x.keys() - 1, 3), fits ? before : 0);
            }
        }
    }

    private static void hundredBytesOfTombstones(Check c) {
        c.says("FILES have .. at most 100 bytes .. the record would make it longer than 100");
        for (int before = 86; before <= 94; before++) {
            for (int keySize = 1; keySize <= 4; keySize++) {
                AppendStore x = new AppendStore();
                x.put(1, keySize, 0, 0);
                x.open(false);
                Check.putFive(x, before);
                c.is("delete", x.delete(1, keySize), true);
                int tombstone = 8 + keySize;
                boolean fits = before + tombstone <= 100;
                String call = "delete of " + tombstone + " bytes behind " + before;
                c.is("files() after " + call, x.files(), fits ? 2 : 3);
                c.is("bytes after " + call, x.file(x.files() - 1, 1), fits ? before + tombstone : tombstone);
            }
        }
    }

    private static void nothingIsActive(Check c) {
        c.says("when nothing is active .. a file .. becomes active");
        AppendStore x = new AppendStore();
        x.put(1, 1, 0, 0);
        c.is("files() after the first put", x.files(), 1);
        x.put(2, 1, 0, 0);
        c.is("files() after the second put", x.files(), 1);
        x.open(false);
        x.put(3, 1, 0, 0);
        c.is("files() after opening and a put", x.files(), 2);
        x.lose(100);
        x.open(false);
        c.is("delete after a loss", x.delete(3, 1), true);
        c.is("files() after a loss and a delete", x.files(), 3);
        c.is("bytes of the last", x.file(2, 1), 9);
        x.open(false);
        c.is("delete of nothing", x.delete(3, 1), false);
        c.is("files() when nothing was appended", x.files(), 3);
    }

    private static void sealing(Check c) {
        c.says("the active file is synced and sealed");
        AppendStore x = new AppendStore();
        Check.putFive(x, 100);
        c.is("synced when it is full but active", x.file(0, 2), 0);
        c.refuses(Check.STATE, "merge when it is full but active", () -> x.merge(1));
        Check.putRecord(x, 9, 9);
        c.is("synced when it is sealed", x.file(0, 2), 100);
        c.is("synced of the new one", x.file(1, 2), 0);
        c.is("merge when it is sealed", x.merge(5), true);

        AppendStore y = new AppendStore();
        Check.putFive(y, 91);
        Check.putRecord(y, 9, 10);
        Check.putRecord(y, 8, 9);
        c.is("a sealed file is not appended to", y.file(0, 1), 91);
        c.is("the new one is", y.file(1, 1), 19);
    }

    private static void numbers(Check c) {
        c.says("a file with the number of the last one plus 1 (1 when there never was one)");
        AppendStore x = new AppendStore();
        for (int i = 1; i <= 6; i++) {
            x.put(0, 1, 0, 0);
            c.is("number " + i, x.file(i - 1, 0), i);
            x.open(false);
        }
        AppendStore y = new AppendStore();
        y.lose(0);
        y.open(true);
        y.put(1, 1, 0, 0);
        c.is("the first number after a loss of nothing", y.file(0, 0), 1);
        y.lose(0);
        y.open(true);
        y.merge(1);
        c.is("files()", y.files(), 0);
        y.put(1, 1, 0, 0);
        c.is("there was one", y.file(0, 0), 2);
    }

    private static void sixFiles(Check c) {
        c.says("at most 6 at a time");
        AppendStore x = new AppendStore();
        for (int i = 1; i <= 6; i++) {
            Check.putFive(x, 100);
            c.is("files()", x.files(), i);
        }
        c.refusesAct(Check.UNSUPPORTED, "put that needs a seventh", () -> x.put(0, 1, 0, 0));
        c.is("files() then", x.files(), 6);
        c.refuses(Check.ARGUMENT, "file(6, 0)", () -> x.file(6, 0));
        c.is("bytes of the sixth", x.file(5, 1), 100);
    }

    private static void fullWithAnActiveFile(Check c) {
        c.says("it is FULL when there are 6 files already");
        for (int record = 9; record <= 20; record++) {
            AppendStore x = Check.full();
            int size = record;
            if (85 + record <= 100) {
                Check.putRecord(x, 99, record);
                c.is("bytes after a put of " + record, x.file(5, 1), 85 + record);
            } else {
                c.refusesAct(Check.UNSUPPORTED, "put of " + record, () -> Check.putRecord(x, 99, size));
                c.is("bytes after a refused put of " + record, x.file(5, 1), 85);
            }
        }
        AppendStore y = Check.full();
        c.refusesAct(Check.UNSUPPORTED, "put that is too long", () -> Check.putRecord(y, 99, 16));
        Check.putRecord(y, 99, 15);
        c.is("a shorter one behind it", y.file(5, 1), 100);
        c.refusesAct(Check.UNSUPPORTED, "put of the shortest", () -> Check.putRecord(y, 99, 9));
    }

    private static void fullWithoutAnActiveFile(Check c) {
        c.says("it is FULL when there are 6 files already");
        AppendStore x = new AppendStore();
        for (int i = 0; i < 6; i++) {
            x.put(i, 1, 0, 0);
            x.open(false);
        }
        c.refusesAct(Check.UNSUPPORTED, "put with six short files, none active", () -> x.put(9, 1, 0, 0));
        c.refuses(Check.UNSUPPORTED, "delete with six short files", () -> x.delete(1, 1));
        c.is("bytes of the last", x.file(5, 1), 9);
        c.is("keys()", x.keys(), 6);

        AppendStore y = new AppendStore();
        for (int i = 0; i < 6; i++) {
            y.put(i, 1, 0, 0);
            y.lose(0);
            y.open(false);
        }
        c.is("empty files count too", y.files(), 6);
        c.refusesAct(Check.UNSUPPORTED, "put with six empty files", () -> y.put(9, 1, 0, 0));
    }

    private static void fullInDelete(Check c) {
        c.says("As for put");
        AppendStore x = new AppendStore();
        for (int i = 0; i < 6; i++) {
            Check.putFive(x, i < 5 ? 100 : 90);
        }
        c.is("five keys of four bytes and five of two", x.keys(), 10);
        c.refuses(Check.UNSUPPORTED, "delete of a key of four bytes", () -> x.delete(1, 4));
        c.is("it has its value still", x.get(1, 4), 0);
        c.is("delete of a key without a value", x.delete(1, 1), false);
        c.is("delete of a key of two bytes", x.delete(1, 2), true);
        c.is("bytes then", x.file(5, 1), 100);
        c.refuses(Check.UNSUPPORTED, "delete of another", () -> x.delete(2, 2));
        c.is("delete of the same again", x.delete(1, 2), false);
        c.is("keys() then", x.keys(), 9);
    }

    private static void nothingIsDone(Check c) {
        c.says("(nothing is done then)");
        AppendStore x = Check.full();
        AppendStore y = Check.full();
        c.refusesAct(Check.UNSUPPORTED, "put of a key that has a value", () -> x.put(0, 1, 7, 8));
        c.refusesAct(Check.UNSUPPORTED, "put of a new key", () -> x.put(0, 4, 7, 8));
        c.is("all that is seen", View.brief(x), View.brief(y));
        c.is("synced of the active file", x.file(5, 2), 0);
        x.put(0, 1, 0, 0);
        y.put(0, 1, 0, 0);
        c.is("it is active still", x.file(5, 1), 94);
        for (int i = 85; i < 94; i++) {
            c.is("byte " + i, x.octet(5, i, false), y.octet(5, i, false));
        }
        c.refuses(Check.UNSUPPORTED, "delete", () -> x.delete(0, 1));
        x.lose(0);
        c.is("what is lost", x.file(5, 1), 0);
    }

    private static void roomAgain(Check c) {
        c.says("it is FULL when there are 6 files already");
        AppendStore x = Check.full();
        Check.putRecord(x, 99, 15);
        c.is("merge that saves nothing", x.merge(20), false);
        c.is("merge that saves nothing", x.merge(5), true);
        c.refusesAct(Check.UNSUPPORTED, "put then", () -> x.put(1, 1, 0, 0));

        AppendStore y = new AppendStore();
        for (int i = 0; i < 6; i++) {
            Check.putFive(y, 100);
        }
        c.refusesAct(Check.UNSUPPORTED, "put when full", () -> y.put(1, 1, 0, 0));
        c.is("merge of what is not live", y.merge(20), false);
        c.refusesAct(Check.UNSUPPORTED, "put before it is published", () -> y.put(1, 1, 0, 0));
        c.is("the rest of the merge", y.merge(5), true);
        y.put(1, 1, 0, 0);
        c.is("files() then", y.files(), 2);
        c.is("the new one's number", y.file(1, 0), 7);
    }

    private static void fullWhileMerging(Check c) {
        c.says("at most 6 at a time");
        AppendStore x = new AppendStore();
        Check.fill(x, 0, 25);
        c.is("merge(19) of 20", x.merge(19), false);
        Check.fill(x, 30, 5);
        c.is("the outputs are no files yet", x.files(), 6);
        c.is("merge(1)", x.merge(1), true);
        c.is("files() after", x.files(), 6);
    }
}
