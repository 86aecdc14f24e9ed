import java.lang.reflect.Field;
import java.lang.reflect.Modifier;

/** The sentence about the time of a record. */
public final class TimeTest {
    private static final String SENTENCE = "The time is the number of puts and deletes that were made before it"
            + " since the store was made, modulo 65536";

    public static void main(String[] args) throws IllegalAccessException {
        Check c = new Check();
        c.says(SENTENCE);
        putsAndDeletes(c);
        callsThatDoNotCount(c);
        refusedCalls(c);
        sinceTheStoreWasMade(c);
        copiesKeepTheirs(c);
        highByte(c);
        wrapAround(c);
        c.end();
    }

    /** The time of the record at a place. */
    private static int time(AppendStore x, int k, int place) {
        return x.octet(k, place + 4, false) * 256 + x.octet(k, place + 5, false);
    }

    /** The time of the latest record of the k-th key. */
    private static int timeOfKey(AppendStore x, int k) {
        for (int f = 0; f < x.files(); f++) {
            if (x.file(f, 0) == x.key(k, 2)) {
                return time(x, f, (int) x.key(k, 3));
            }
        }
        return -1;
    }

    private static int timeOfPut(AppendStore x) {
        x.put(0, 1, 0, 0);
        return timeOfKey(x, 0);
    }

    private static void putsAndDeletes(Check c) {
        AppendStore x = new AppendStore();
        x.put(1, 1, 0, 0);
        x.put(2, 1, 0, 0);
        x.put(1, 1, 0, 0);
        x.delete(2, 1);
        x.delete(1, 1);
        x.put(1, 1, 0, 0);
        for (int i = 0; i < 6; i++) {
            c.is("time of record " + i, time(x, 0, 9 * i), i);
        }
    }

    private static void callsThatDoNotCount(Check c) {
        AppendStore x = new AppendStore();
        c.is("delete of nothing", x.delete(1, 1), false);
        c.is("the first time behind it", timeOfPut(x), 0);
        x.get(0, 1);
        x.keys();
        x.key(0, 1);
        x.sync();
        x.files();
        x.file(0, 1);
        x.octet(0, 0, false);
        x.spoil(0, 0, false, 0);
        x.delete(1, 1);
        c.is("the second time", timeOfPut(x), 1);
        x.open(true);
        x.merge(20);
        c.is("the third time", timeOfPut(x), 2);
    }

    private static void refusedCalls(Check c) {
        AppendStore x = Check.full();
        c.refusesAct(Check.UNSUPPORTED, "put when full", () -> x.put(1, 4, 1, 8));
        c.refusesAct(Check.ARGUMENT, "put with a wrong size", () -> x.put(1, 1, 1, 9));
        c.refuses(Check.ARGUMENT, "delete with a wrong size", () -> x.delete(1, 0));
        c.is("behind 30 puts and the refused calls", timeOfPut(x), 30);
        c.refuses(Check.UNSUPPORTED, "delete when full", () -> x.delete(1, 1));
        x.lose(0);
        c.refusesAct(Check.STATE, "put when closed", () -> x.put(1, 1, 1, 1));
        c.refuses(Check.STATE, "delete when closed", () -> x.delete(1, 1));
        x.open(true);
        x.merge(20);
        x.merge(20);
        c.is("files()", x.files(), 5);
        c.is("behind 31 puts and the refused calls", timeOfPut(x), 31);
    }

    private static void sinceTheStoreWasMade(Check c) {
        AppendStore x = new AppendStore();
        for (int i = 0; i < 6; i++) {
            c.is("time " + i + ", what was lost counts too", timeOfPut(x), i);
            x.lose(0);
            x.open(false);
            x.merge(1);
        }
        AppendStore y = new AppendStore();
        c.is("another store has a time of its own", timeOfPut(y), 0);
        y.open(true);
        c.is("it goes on when the store is opened", timeOfPut(y), 1);
    }

    private static void copiesKeepTheirs(Check c) {
        AppendStore x = new AppendStore();
        x.put(5, 1, 0, 0);
        x.put(6, 1, 0, 0);
        x.put(5, 1, 0, 0);
        x.open(false);
        x.merge(3);
        c.is("time of the first copy", time(x, 0, 0), 1);
        c.is("time of the second copy", time(x, 0, 9), 2);
        c.is("time of the next put", timeOfPut(x), 3);
    }

    /** 300 puts, eleven to a file; a file is merged away when the next one is full. */
    private static void highByte(Check c) {
        AppendStore x = new AppendStore();
        for (int i = 0; i < 300; i++) {
            x.put(0, 1, 0, 0);
            if (i >= 254 && i <= 258) {
                c.is("time of put " + i, timeOfKey(x, 0), i);
            }
            if (i % 11 == 10 && i > 11) {
                x.merge(20);
            }
        }
        c.is("time of the last put", timeOfKey(x, 0), 299);
    }

    /** No run of 512 calls comes to 65536, so the store's counter is set by hand. */
    private static void wrapAround(Check c) throws IllegalAccessException {
        AppendStore x = new AppendStore();
        x.put(7, 1, 0, 0);
        x.put(7, 1, 0, 0);
        x.put(7, 1, 0, 0);
        if (!setCounter(x, 3, 65534)) {
            System.out.println("no counter of puts and deletes was found: its wrap-around is not looked at");
            return;
        }
        x.put(7, 1, 0, 0);
        x.put(7, 1, 0, 0);
        x.delete(7, 1);
        x.put(7, 1, 0, 0);
        c.is("the time before the last", time(x, 0, 27), 65534);
        c.is("the last time", time(x, 0, 36), 65535);
        c.is("the one behind it", time(x, 0, 45), 0);
        c.is("and the next", time(x, 0, 54), 1);
    }

    private static boolean setCounter(AppendStore x, int from, int to) throws IllegalAccessException {
        for (Field f : AppendStore.class.getDeclaredFields()) {
            if (f.getType() == int.class && !Modifier.isStatic(f.getModifiers())) {
                f.setAccessible(true);
                if (f.getInt(x) == from) {
                    f.setInt(x, to);
                    return true;
                }
            }
        }
        return false;
    }
}
