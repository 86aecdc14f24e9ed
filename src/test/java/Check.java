import java.util.NoSuchElementException;
import java.util.zip.CRC32;

/** Compares answers with those that are due, and ends a test with exit code 1 if one was wrong. */
final class Check {
    static final Class<?> ARGUMENT = IllegalArgumentException.class;
    static final Class<?> STATE = IllegalStateException.class;
    static final Class<?> NONE = NoSuchElementException.class;
    static final Class<?> UNSUPPORTED = UnsupportedOperationException.class;

    interface Call {
        Object run();
    }

    interface Act {
        void run();
    }

    private int wrong;
    private int looked;
    private String sentence = "";

    /** The sentence of the document that the next answers are held against. */
    void says(String words) {
        sentence = "\"" + words + "\": ";
    }

    private void tell(String words) {
        wrong++;
        System.out.println(sentence + words);
    }

    void is(String call, long got, long due) {
        looked++;
        if (got != due) {
            tell(call + " answered " + got + ", due is " + due);
        }
    }

    void is(String call, String got, String due) {
        looked++;
        if (!got.equals(due)) {
            tell(call + " answered\n" + got + "\ndue is\n" + due);
        }
    }

    void is(String call, boolean got, boolean due) {
        is(call, got ? 1 : 0, due ? 1 : 0);
    }

    void refuses(Class<?> due, String call, Call body) {
        looked++;
        try {
            Object got = body.run();
            tell(call + " answered " + got + ", due is throws." + due.getSimpleName());
        } catch (RuntimeException e) {
            if (e.getClass() != due) {
                tell(call + " threw " + e + ", due is throws." + due.getSimpleName());
            }
        }
    }

    void refusesAct(Class<?> due, String call, Act body) {
        refuses(due, call, () -> {
            body.run();
            return "nothing";
        });
    }

    /** Compares all bytes of a file or of a hint. */
    void bytes(String what, AppendStore x, int k, boolean hint, int... due) {
        is(what + " size", x.file(k, hint ? 4 : 1), due.length);
        for (int i = 0; i < Math.min(due.length, x.file(k, hint ? 4 : 1)); i++) {
            is(what + " byte " + i, x.octet(k, i, hint), due[i]);
        }
    }

    void end() {
        System.out.println(wrong == 0 ? looked + " answers are as due" : wrong + " answers are not as due");
        if (wrong != 0) {
            System.exit(1);
        }
    }

    static int[] join(int[]... parts) {
        int size = 0;
        for (int[] part : parts) {
            size += part.length;
        }
        int[] all = new int[size];
        int at = 0;
        for (int[] part : parts) {
            System.arraycopy(part, 0, all, at, part.length);
            at += part.length;
        }
        return all;
    }

    static int[] row(int... bytes) {
        return bytes;
    }

    static int[] sum(int... bytes) {
        CRC32 crc = new CRC32();
        for (int b : bytes) {
            crc.update(b);
        }
        long v = crc.getValue();
        return row((int) (v >>> 24), (int) (v >>> 16) & 255, (int) (v >>> 8) & 255, (int) v & 255);
    }

    /** A record: the sum in front of all that is behind it. */
    static int[] summed(int... bytes) {
        return join(sum(bytes), bytes);
    }

    /** A hint: the sum behind all that is in front of it. */
    static int[] hint(int... bytes) {
        return join(bytes, sum(bytes));
    }

    /** Puts keys of one byte with values of eight: 17 bytes each, five to a file. */
    static void fill(AppendStore x, int firstKey, int count) {
        for (int i = 0; i < count; i++) {
            x.put(firstKey + i, 1, 1000L + firstKey + i, 8);
        }
    }

    /** A full store: six files of five records, the keys 0 to 29. */
    static AppendStore full() {
        AppendStore x = new AppendStore();
        fill(x, 0, 30);
        return x;
    }

    /** Puts one value with a record of so many bytes (9 to 20). */
    static void putRecord(AppendStore x, long key, int bytes) {
        int keySize = bytes > 17 ? bytes - 16 : 1;
        x.put(key, keySize, 0, bytes - 8 - keySize);
    }

    /** Puts values for the keys 0 to 4, with records of so many bytes together (45 to 100). */
    static void putFive(AppendStore x, int bytes) {
        for (int i = 0; i < 5; i++) {
            putRecord(x, i, (bytes + i) / 5);
        }
    }

    /** Spoils the first bytes of a file or of a hint until they are the wanted ones. */
    static void forge(AppendStore x, int k, boolean hint, int... wanted) {
        for (int i = 0; i < wanted.length; i++) {
            int bits = x.octet(k, i, hint) ^ wanted[i];
            if (bits != 0) {
                x.spoil(k, i, hint, bits);
            }
        }
    }

    /** Merges until it is published. */
    static void mergeAll(AppendStore x) {
        for (int i = 0; i < 10; i++) {
            if (x.merge(20)) {
                return;
            }
        }
    }
}
