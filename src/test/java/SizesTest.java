import java.util.Arrays;

/** The sentences about keys' and values' bytes, each with its edges. */
public final class SizesTest {
    private static final long MANY = 0x1122334455667788L;

    public static void main(String[] args) {
        Check c = new Check();
        keySizes(c);
        valueSizes(c);
        lowestBytesOfKeys(c);
        lowestBytesOfValues(c);
        valuesAsNumbers(c);
        sizesMakeKeys(c);
        order(c);
        beginnings(c);
        c.end();
    }

    private static void keySizes(Check c) {
        c.says("A KEY has 1 to 4 bytes");
        AppendStore x = new AppendStore();
        for (int size = 1; size <= 4; size++) {
            x.put(7, size, size, 1);
            c.is("get with a size of " + size, x.get(7, size), size);
            c.is("delete with a size of " + size, x.delete(7, size), true);
            x.put(7, size, size, 1);
        }
        for (int wrong : new int[] {0, 5, -1, -4, 8, 256, 257, 65537, Integer.MIN_VALUE, Integer.MAX_VALUE}) {
            c.refusesAct(Check.ARGUMENT, "put with a key's size of " + wrong, () -> x.put(7, wrong, 1, 1));
            c.refuses(Check.ARGUMENT, "delete with a size of " + wrong, () -> x.delete(7, wrong));
            c.refuses(Check.ARGUMENT, "get with a size of " + wrong, () -> x.get(7, wrong));
        }
        c.is("keys()", x.keys(), 4);
    }

    private static void valueSizes(Check c) {
        c.says("a VALUE 0 to 8");
        AppendStore x = new AppendStore();
        for (int size = 0; size <= 8; size++) {
            x.put(1, 1, 0, size);
            c.is("bytes of the record with a value's size of " + size, x.file(x.files() - 1, 3), 9 + size);
            c.is("get with a value's size of " + size, x.get(1, 1), 0);
        }
        for (int wrong : new int[] {-1, 9, -8, 16, 254, 255, 256, 264, Integer.MIN_VALUE, Integer.MAX_VALUE}) {
            c.refusesAct(Check.ARGUMENT, "put with a value's size of " + wrong, () -> x.put(1, 1, 0, wrong));
            c.is("keys() then", x.keys(), 1);
        }
        c.refusesAct(Check.ARGUMENT, "put with both sizes wrong", () -> x.put(1, 0, 0, 9));
    }

    private static void lowestBytesOfKeys(Check c) {
        c.says("a number n of bytes of a long are its lowest n, the highest first");
        long[] due = {0x88, 0x7788, 0x667788, 0x55667788};
        for (int size = 1; size <= 4; size++) {
            AppendStore x = new AppendStore();
            x.put(MANY, size, 0, 0);
            c.is("the key's number of " + size + " bytes", x.key(0, 1), due[size - 1]);
            for (int i = 0; i < size; i++) {
                c.is("byte " + i + " of " + size, x.octet(0, 8 + i, false), 0x88 - 0x11 * (size - 1 - i));
            }
            c.is("get by the lowest bytes", x.get(due[size - 1], size), 0);
            c.is("get with other high bytes", x.get(due[size - 1] | (-1L << (8 * size)), size), 0);
            c.is("delete with other high bytes", x.delete(due[size - 1] - (1L << (8 * size)), size), true);
        }
        AppendStore y = new AppendStore();
        y.put(-1, 4, 0, 0);
        c.is("a key of four bytes 255 is no negative number", y.key(0, 1), 4294967295L);
        y.open(false);
        c.is("nor when it was gone over", y.key(0, 1), 4294967295L);
        y.merge(1);
        y.open(true);
        c.is("nor from a hint", y.key(0, 1), 4294967295L);
    }

    private static void lowestBytesOfValues(Check c) {
        c.says("a number n of bytes of a long are its lowest n, the highest first");
        for (int size = 1; size <= 8; size++) {
            AppendStore x = new AppendStore();
            x.put(1, 1, MANY, size);
            c.is("get of " + size + " bytes", x.get(1, 1), MANY & (-1L >>> (64 - 8 * size)));
            for (int i = 0; i < size; i++) {
                c.is("byte " + i + " of " + size, x.octet(0, 9 + i, false), 0x88 - 0x11 * (size - 1 - i));
            }
            c.refuses(Check.ARGUMENT, "the byte behind it", () -> x.octet(0, x.file(0, 1), false));
        }
    }

    private static void valuesAsNumbers(Check c) {
        c.says("The bytes of a key's value, as a number (0 without bytes)");
        AppendStore x = new AppendStore();
        x.put(1, 1, -1, 0);
        c.is("no bytes", x.get(1, 1), 0);
        for (int size = 1; size <= 7; size++) {
            x.put(1, 1, -1, size);
            c.is(size + " bytes of 255 are no negative number", x.get(1, 1), (1L << (8 * size)) - 1);
        }
        for (long value : new long[] {-1, Long.MIN_VALUE, Long.MAX_VALUE, 0}) {
            x.put(1, 1, value, 8);
            c.is("eight bytes", x.get(1, 1), value);
        }
    }

    private static void sizesMakeKeys(Check c) {
        c.says("A KEY has 1 to 4 bytes");
        AppendStore x = new AppendStore();
        for (int size = 1; size <= 4; size++) {
            x.put(0, size, 10 + size, 1);
        }
        c.is("the number 0 in four sizes is four keys", x.keys(), 4);
        c.is("delete of one", x.delete(0, 2), true);
        c.is("the others stay", x.keys(), 3);
        c.is("the shorter one", x.get(0, 1), 11);
        c.is("the longer one", x.get(0, 3), 13);
        c.refuses(Check.NONE, "the one itself", () -> x.get(0, 2));
    }

    /** Every two of these keys, put in either order. */
    private static void order(Check c) {
        c.says("Keys are ORDERED as rows of bytes (0 .. 255) are: by the first that differ");
        long[][] keys = {
            {1, 0}, {1, 1}, {1, 0x7F}, {1, 0x80}, {1, 0xFF}, {2, 0}, {2, 1}, {2, 0x7F00}, {2, 0x7FFF}, {2, 0x8000},
            {2, 0xFF00}, {2, 0xFFFF}, {3, 0}, {3, 0x000100}, {3, 0x7FFFFF}, {3, 0x800000}, {4, 0}, {4, 0x01000000},
            {4, 0x7FFFFFFFL}, {4, 0x80000000L}, {4, 0x8000007FL}, {4, 0x80000080L}, {4, 0xFFFFFFFFL},
        };
        for (long[] a : keys) {
            for (long[] b : keys) {
                if (a != b) {
                    long[] first = Arrays.compareUnsigned(bytesOf(a), bytesOf(b)) < 0 ? a : b;
                    pair(c, a, b, first, first == a ? b : a);
                }
            }
        }
    }

    private static void pair(Check c, long[] a, long[] b, long[] first, long[] second) {
        AppendStore x = new AppendStore();
        x.put(a[1], (int) a[0], 0, 0);
        x.put(b[1], (int) b[0], 0, 0);
        String pair = Arrays.toString(a) + " and " + Arrays.toString(b);
        c.is("size of the first of " + pair, x.key(0, 0), first[0]);
        c.is("number of the first of " + pair, x.key(0, 1), first[1]);
        c.is("size of the second of " + pair, x.key(1, 0), second[0]);
        c.is("number of the second of " + pair, x.key(1, 1), second[1]);
    }

    private static byte[] bytesOf(long[] key) {
        byte[] bytes = new byte[(int) key[0]];
        for (int i = 0; i < bytes.length; i++) {
            bytes[i] = (byte) (key[1] >>> (8 * (bytes.length - 1 - i)));
        }
        return bytes;
    }

    private static void beginnings(Check c) {
        c.says("one that is the beginning of another comes first");
        int[] places = {36, 25, 13, 0};
        for (long octet : new long[] {0, 1, 0x7F, 0x80, 0xFF}) {
            AppendStore x = new AppendStore();
            long four = octet * 0x01010101L;
            for (int size = 4; size >= 1; size--) {
                x.put(four, size, size, 1);
            }
            for (int k = 0; k < 4; k++) {
                c.is("size of key " + k + " of bytes " + octet, x.key(k, 0), k + 1);
                c.is("number of key " + k + " of bytes " + octet, x.key(k, 1), four >>> (8 * (3 - k)));
                c.is("place of key " + k + " of bytes " + octet, x.key(k, 3), places[k]);
            }
        }
    }
}
