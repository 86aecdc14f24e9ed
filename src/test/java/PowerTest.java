/** The sentences about what is synced and what a loss of power takes. */
public final class PowerTest {
    public static void main(String[] args) {
        Check c = new Check();
        firstOnes(c);
        allBytesSynced(c);
        asFarAsThereAre(c);
        sealedFiles(c);
        noActiveFile(c);
        whatIsLeft(c);
        mergeIsLost(c);
        closed(c);
        range(c);
        activeFileAfterwards(c);
        c.end();
    }

    private static void firstOnes(Check c) {
        c.says("but for so many bytes of the active file as the host says (the first ones that were not synced)");
        for (int more : new int[] {0, 1, 8, 9, 10, 17, 18}) {
            AppendStore x = threePuts();
            int[] before = octets(x);
            x.lose(more);
            c.is("bytes with " + more + " more", x.file(0, 1), 9 + more);
            for (int i = 0; i < 9 + more; i++) {
                c.is("byte " + i + " with " + more + " more", x.octet(0, i, false), before[i]);
            }
            c.refuses(Check.ARGUMENT, "the first byte that was lost", () -> x.octet(0, 9 + more, false));
        }
    }

    /** Three records of nine bytes, of which the first is synced. */
    private static AppendStore threePuts() {
        AppendStore x = new AppendStore();
        x.put(1, 1, 0, 0);
        x.sync();
        x.put(2, 1, 0, 0);
        x.put(3, 1, 0, 0);
        return x;
    }

    private static int[] octets(AppendStore x) {
        int[] all = new int[x.file(0, 1)];
        for (int i = 0; i < all.length; i++) {
            all[i] = x.octet(0, i, false);
        }
        return all;
    }

    private static void allBytesSynced(Check c) {
        c.says("All bytes of the active file are synced");
        AppendStore x = threePuts();
        c.is("synced before", x.file(0, 2), 9);
        x.sync();
        c.is("synced after", x.file(0, 2), 27);
        x.sync();
        c.is("synced twice", x.file(0, 2), 27);
        x.lose(0);
        c.is("nothing is lost", x.file(0, 1), 27);
        AppendStore y = new AppendStore();
        y.sync();
        c.is("sync of a new store makes no file", y.files(), 0);
        Check.putFive(y, 100);
        y.sync();
        c.is("a file of 100 bytes", y.file(0, 2), 100);
        y.lose(0);
        c.refusesAct(Check.STATE, "sync when closed", () -> y.sync());
    }

    private static void asFarAsThereAre(Check c) {
        c.says("so many bytes more (0 .. 100) of the active file stay, as far as there are");
        for (int more : new int[] {17, 18, 19, 73, 91, 92, 100}) {
            AppendStore x = threePuts();
            x.lose(more);
            c.is("bytes with " + more + " more", x.file(0, 1), Math.min(27, 9 + more));
            c.is("synced with " + more + " more", x.file(0, 2), Math.min(27, 9 + more));
        }
        AppendStore y = new AppendStore();
        Check.putFive(y, 100);
        y.lose(100);
        c.is("all of 100", y.file(0, 1), 100);
        AppendStore z = new AppendStore();
        Check.putFive(z, 100);
        z.lose(99);
        c.is("99 of 100", z.file(0, 1), 99);
        c.is("the last record is not all there", z.open(false), 4);
    }

    private static void sealedFiles(Check c) {
        c.says("of each file what was not synced is lost");
        AppendStore x = new AppendStore();
        Check.fill(x, 0, 16);
        x.lose(0);
        c.is("files() after", x.files(), 4);
        for (int k = 0; k < 3; k++) {
            c.is("bytes of a sealed file", x.file(k, 1), 85);
            c.is("synced of a sealed file", x.file(k, 2), 85);
        }
        c.is("bytes of the active file", x.file(3, 1), 0);
        c.is("keys after", x.open(false), 15);

        AppendStore y = new AppendStore();
        Check.fill(y, 0, 6);
        y.lose(20);
        c.is("more is for the active file alone", y.file(0, 1), 85);
        c.is("its bytes", y.file(1, 1), 17);
    }

    private static void noActiveFile(Check c) {
        c.says("so many bytes more (0 .. 100) of the active file stay, as far as there are");
        AppendStore x = new AppendStore();
        x.lose(100);
        c.is("a new store: files()", x.files(), 0);
        c.is("open", x.open(true), 0);
        AppendStore y = threePuts();
        y.open(false);
        y.lose(0);
        c.is("an opened store has no active file", y.file(0, 1), 27);
        AppendStore z = threePuts();
        z.open(false);
        z.merge(3);
        z.lose(0);
        c.is("a published file is synced", z.file(0, 1), 27);
        c.is("and keeps its hint", z.file(0, 4), 22);
    }

    private static void whatIsLeft(Check c) {
        c.says("what is left is synced");
        AppendStore x = threePuts();
        x.lose(5);
        c.is("synced", x.file(0, 2), 14);
        x.lose(0);
        c.is("bytes after a second loss", x.file(0, 1), 14);
        x.lose(100);
        c.is("what is lost does not come back", x.file(0, 1), 14);
        c.is("keys", x.open(false), 1);
        x.lose(0);
        c.is("bytes after opening and a third loss", x.file(0, 1), 9);
    }

    private static void mergeIsLost(Check c) {
        c.says("A merge that goes on is lost");
        AppendStore x = new AppendStore();
        Check.fill(x, 0, 11);
        c.is("merge(9) of 10", x.merge(9), false);
        x.lose(100);
        c.is("the files are as they were", x.file(0, 4), 0);
        c.is("open", x.open(true), 11);
        for (int i = 0; i < 10; i++) {
            c.is("the new merge, step " + i, x.merge(1), false);
        }
        c.is("the new merge takes the third file too", x.merge(1), true);
    }

    private static void closed(Check c) {
        c.says("The store is CLOSED then");
        AppendStore x = threePuts();
        x.lose(18);
        c.refusesAct(Check.STATE, "put", () -> x.put(1, 1, 1, 1));
        c.refuses(Check.STATE, "delete", () -> x.delete(1, 1));
        c.refuses(Check.STATE, "delete of nothing", () -> x.delete(9, 1));
        c.refuses(Check.STATE, "get", () -> x.get(1, 1));
        c.refuses(Check.STATE, "get of nothing", () -> x.get(9, 1));
        c.refuses(Check.STATE, "keys", () -> x.keys());
        c.refuses(Check.STATE, "key", () -> x.key(0, 0));
        c.refuses(Check.STATE, "key of nothing", () -> x.key(9, 0));
        c.refusesAct(Check.STATE, "sync", () -> x.sync());
        c.refuses(Check.STATE, "merge", () -> x.merge(1));
        c.is("files()", x.files(), 1);
        c.is("file(0, 0)", x.file(0, 0), 1);
        c.is("file(0, 3), 0 when closed", x.file(0, 3), 0);
        c.is("octet(0, 8)", x.octet(0, 8, false), 1);
        x.spoil(0, 26, false, 1);
        x.lose(0);
        c.is("open", x.open(true), 2);
        c.is("file(0, 3) when it is open again", x.file(0, 3), 18);
    }

    private static void range(Check c) {
        c.says("so many bytes more (0 .. 100)");
        for (int wrong : new int[] {-1, 101, -100, 256, Integer.MIN_VALUE, Integer.MAX_VALUE}) {
            AppendStore x = threePuts();
            c.refusesAct(Check.ARGUMENT, "lose(" + wrong + ")", () -> x.lose(wrong));
            c.is("it is open still", x.keys(), 3);
            c.is("nothing is lost", x.file(0, 1), 27);
            c.is("nothing is synced", x.file(0, 2), 9);
            x.lose(0);
            c.refusesAct(Check.ARGUMENT, "lose(" + wrong + ") when closed", () -> x.lose(wrong));
        }
        for (int right : new int[] {0, 100}) {
            AppendStore x = threePuts();
            x.lose(right);
            c.refuses(Check.STATE, "keys() after lose(" + right + ")", () -> x.keys());
        }
    }

    private static void activeFileAfterwards(Check c) {
        c.says("All files are sealed and synced; none is active");
        AppendStore x = threePuts();
        x.lose(0);
        c.is("open", x.open(false), 1);
        c.is("merge of what was active", x.merge(1), true);
        x.put(4, 1, 0, 0);
        c.is("a new file", x.file(1, 0), 2);
        AppendStore y = threePuts();
        c.is("open without a loss", y.open(false), 3);
        c.is("what was not synced is synced", y.file(0, 2), 27);
        y.put(4, 1, 0, 0);
        c.is("the old one has no more", y.file(0, 1), 27);
        c.is("the new one is not synced", y.file(1, 2), 0);
    }
}
