/** Promises 7 and 8. */
public final class LoseTest {
    public static void main(String[] args) {
        Check c = new Check();
        syncing(c);
        losing(c);
        losingAll(c);
        losingZeros(c);
        losingTwice(c);
        losingMerge(c);
        wrongCalls(c);
        c.end();
    }

    private static void syncing(Check c) {
        AppendStore x = new AppendStore();
        x.sync();
        c.is("sync without a file", x.files(), 0);
        x.put(1, 1, 1, 1);
        c.is("synced before", x.file(0, 2), 0);
        x.sync();
        c.is("synced", x.file(0, 2), 10);
        x.put(2, 1, 2, 2);
        c.is("synced stays", x.file(0, 2), 10);
        x.sync();
        c.is("synced again", x.file(0, 2), 21);
        x.lose(0);
        c.refusesAct(Check.STATE, "sync when closed", () -> x.sync());
        c.is("nothing was lost", x.file(0, 1), 21);
        c.is("open", x.open(false), 2);
        x.sync();
        c.is("sync without an active file", x.file(0, 2), 21);
    }

    private static void losing(Check c) {
        for (int more = 0; more <= 100; more++) {
            AppendStore x = new AppendStore();
            x.put(1, 1, 1, 1);
            x.sync();
            x.put(2, 1, 2, 2);
            x.put(3, 1, 3, 3);
            x.lose(more);
            int left = Math.min(10 + more, 33);
            c.is("bytes left with " + more, x.file(0, 1), left);
            c.is("synced with " + more, x.file(0, 2), left);
            c.is("live bytes when closed", x.file(0, 3), 0);
            c.is("keys with " + more, x.open(false), more >= 23 ? 3 : more >= 11 ? 2 : 1);
            c.is("cut off with " + more, x.file(0, 1), more >= 23 ? 33 : more >= 11 ? 21 : 10);
        }
    }

    private static void losingAll(Check c) {
        AppendStore x = new AppendStore();
        Check.fill(x, 0, 7);
        x.lose(0);
        c.is("the file stays", x.files(), 2);
        c.is("the sealed one has all", x.file(0, 1), 85);
        c.is("the active one nothing", x.file(1, 1), 0);
        c.is("open", x.open(true), 5);
        c.is("the empty file stays", x.files(), 2);
        x.put(9, 1, 1, 1);
        c.is("another becomes active", x.file(2, 0), 3);
        c.is("time was not lost", x.octet(2, 5, false), 7);
        x.lose(9);
        c.is("a part of a record", x.file(2, 1), 9);
        c.is("open then", x.open(true), 5);
        c.is("it is cut off", x.file(2, 1), 0);
    }

    /** What was lost is not there, though the sum would be right with zeros in its place. */
    private static void losingZeros(Check c) {
        for (int more = 8; more <= 17; more++) {
            AppendStore x = new AppendStore();
            x.put(0, 1, 0, 8);
            x.lose(more);
            c.is("keys with " + more + " of 17", x.open(false), more == 17 ? 1 : 0);
            c.is("bytes with " + more + " of 17", x.file(0, 1), more == 17 ? 17 : 0);
        }
    }

    private static void losingTwice(Check c) {
        AppendStore x = new AppendStore();
        x.put(1, 1, 1, 1);
        x.put(2, 1, 1, 1);
        x.lose(13);
        x.lose(0);
        c.is("what is left is synced", x.file(0, 1), 13);
        c.refuses(Check.STATE, "keys()", () -> x.keys());
        c.is("open", x.open(true), 1);
        x.lose(0);
        c.is("an opened file is synced", x.file(0, 1), 10);
    }

    private static void losingMerge(Check c) {
        AppendStore x = new AppendStore();
        Check.fill(x, 0, 11);
        c.is("merge(9)", x.merge(9), false);
        x.lose(100);
        c.refuses(Check.STATE, "merge when closed", () -> x.merge(1));
        x.open(false);
        c.is("a lost merge begins anew", x.merge(10), false);
        c.is("with all files", x.merge(1), true);
        c.is("files()", x.files(), 3);
    }

    private static void wrongCalls(Check c) {
        AppendStore x = new AppendStore();
        x.put(1, 1, 1, 1);
        for (int more : new int[] {-1, 101, Integer.MIN_VALUE, Integer.MAX_VALUE}) {
            c.refusesAct(Check.ARGUMENT, "lose(" + more + ")", () -> x.lose(more));
        }
        c.is("it is open still", x.get(1, 1), 1);
        x.lose(100);
        c.refusesAct(Check.ARGUMENT, "lose(101) when closed", () -> x.lose(101));
    }
}
