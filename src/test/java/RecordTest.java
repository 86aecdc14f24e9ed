import java.util.Arrays;

/** The sentences about how opening goes over the records of a file. */
public final class RecordTest {
    public static void main(String[] args) {
        Check c = new Check();
        recordNotAllThere(c);
        tombstoneNotAllThere(c);
        wrongSum(c);
        sizes(c);
        tombstones(c);
        cutOff(c);
        cutOffToNothing(c);
        madeAnew(c);
        orderOfFiles(c);
        openStore(c);
        howManyKeys(c);
        c.end();
    }

    private static void recordNotAllThere(Check c) {
        c.says("each record that is all there");
        for (int record = 9; record <= 20; record++) {
            for (int there = 0; there <= record; there++) {
                AppendStore x = new AppendStore();
                x.put(1, 1, 0, 0);
                x.sync();
                Check.putRecord(x, 2, record);
                x.lose(there);
                boolean all = there == record;
                c.is("open with " + there + " of " + record, x.open(false), all ? 2 : 1);
                c.is("bytes with " + there + " of " + record, x.file(0, 1), all ? 9 + record : 9);
                c.is("synced with " + there + " of " + record, x.file(0, 2), all ? 9 + record : 9);
            }
        }
    }

    private static void tombstoneNotAllThere(Check c) {
        c.says("each record that is all there");
        for (int keySize = 1; keySize <= 4; keySize++) {
            int size = 8 + keySize;
            for (int there = 0; there <= size; there++) {
                AppendStore x = new AppendStore();
                x.put(1, keySize, 0, 0);
                x.sync();
                x.delete(1, keySize);
                x.lose(there);
                c.is("open with " + there + " of " + size, x.open(true), there == size ? 0 : 1);
                c.is("bytes with " + there + " of " + size, x.file(0, 1), there == size ? 2 * size : size);
            }
        }
    }

    private static void wrongSum(Check c) {
        c.says("with the right sum");
        for (int i = 0; i < 13; i++) {
            for (int bit = 1; bit < 256; bit *= 2) {
                AppendStore x = new AppendStore();
                x.put(1, 1, 7, 1);
                x.put(2, 2, 7, 3);
                x.put(3, 1, 7, 1);
                x.spoil(0, 10 + i, false, bit);
                String call = "with bit " + bit + " of byte " + i;
                c.is("open " + call, x.open(false), 1);
                c.is("bytes " + call, x.file(0, 1), 10);
                c.is("the record in front of it " + call, x.get(1, 1), 7);
            }
        }
    }

    /** Records with right sums and all sizes about the edges, in front of what was in a file of 100 bytes. */
    private static void sizes(Check c) {
        c.says("a key's size of 1 to 4 and a value's of 0 to 8 or 255");
        for (int keySize : new int[] {0, 1, 2, 3, 4, 5, 6, 20}) {
            for (int valueSize : new int[] {0, 1, 7, 8, 9, 10, 60, 127, 128, 254, 255}) {
                AppendStore x = new AppendStore();
                Check.putFive(x, 100);
                int size = 8 + keySize + (valueSize == 255 ? 0 : valueSize);
                Check.forge(x, 0, false, forged(keySize, valueSize, Math.min(100, size)));
                boolean tombstone = valueSize == 255;
                boolean right = keySize >= 1 && keySize <= 4 && (valueSize <= 8 || tombstone);
                boolean others = right && size == 20;
                String call = "with sizes " + keySize + " and " + valueSize;
                c.is("open " + call, x.open(false), (right && !tombstone ? 1 : 0) + (others ? 4 : 0));
                c.is("bytes " + call, x.file(0, 1), others ? 100 : right ? size : 0);
            }
        }
    }

    private static int[] forged(int keySize, int valueSize, int size) {
        int[] behind = new int[size - 4];
        Arrays.fill(behind, 0xEE);
        behind[2] = keySize;
        behind[3] = valueSize;
        return Check.summed(behind);
    }

    private static void tombstones(Check c) {
        c.says("its key is there, or, for a tombstone, is nowhere");
        AppendStore x = new AppendStore();
        x.put(1, 1, 5, 1);
        x.put(2, 1, 6, 1);
        x.open(false);
        x.delete(1, 1);
        c.is("open, the tombstone in a later file", x.open(false), 1);
        c.refuses(Check.NONE, "get of what was deleted", () -> x.get(1, 1));
        x.put(1, 1, 7, 1);
        c.is("open, a value behind the tombstone", x.open(false), 2);
        c.is("get of it", x.get(1, 1), 7);

        AppendStore y = new AppendStore();
        y.put(1, 1, 5, 1);
        y.delete(1, 1);
        y.put(2, 1, 6, 1);
        y.open(false);
        c.is("a tombstone in the same file: keys()", y.keys(), 1);
        c.is("the record behind it", y.get(2, 1), 6);
        c.is("bytes, the tombstone stays", y.file(0, 1), 29);

        AppendStore z = new AppendStore();
        z.put(1, 1, 5, 1);
        z.open(false);
        z.delete(1, 1);
        z.put(2, 1, 6, 1);
        z.spoil(0, 0, false, 1);
        c.is("a tombstone of a key that is nowhere already", z.open(false), 1);
        c.is("bytes of its file", z.file(1, 1), 19);
    }

    private static void cutOff(Check c) {
        c.says("at the first that is none of these, or at its end, the file ends (it is cut off there)");
        AppendStore x = new AppendStore();
        Check.fill(x, 0, 10);
        x.spoil(0, 34, false, 1);
        c.is("open", x.open(false), 7);
        c.is("bytes of the file", x.file(0, 1), 34);
        c.is("synced of the file", x.file(0, 2), 34);
        c.is("bytes of the next file", x.file(1, 1), 85);
        c.refuses(Check.ARGUMENT, "the first byte behind", () -> x.octet(0, 34, false));
        c.refusesAct(Check.ARGUMENT, "spoiling the first byte behind", () -> x.spoil(0, 34, false, 1));
        for (int key = 2; key < 5; key++) {
            int gone = key;
            c.refuses(Check.NONE, "get(" + key + ")", () -> x.get(gone, 1));
        }
        c.is("get(1)", x.get(1, 1), 1001);
        c.is("get(5)", x.get(5, 1), 1005);
        c.is("open again", x.open(true), 7);
        x.put(2, 1, 9, 1);
        c.is("a file that was cut off is sealed", x.file(0, 1), 34);

        AppendStore y = new AppendStore();
        Check.putFive(y, 100);
        c.is("a file of 100 bytes ends at its end", y.open(false), 5);
        c.is("its bytes", y.file(0, 1), 100);
    }

    private static void cutOffToNothing(Check c) {
        c.says("at the first that is none of these, or at its end, the file ends (it is cut off there)");
        AppendStore x = new AppendStore();
        x.put(1, 1, 5, 1);
        x.put(2, 1, 6, 1);
        x.spoil(0, 9, false, 128);
        c.is("open", x.open(false), 0);
        c.is("the file stays", x.files(), 1);
        c.is("its number", x.file(0, 0), 1);
        c.is("its bytes", x.file(0, 1), 0);
        c.refuses(Check.ARGUMENT, "its first byte", () -> x.octet(0, 0, false));
        c.is("open again", x.open(false), 0);
        x.put(1, 1, 7, 1);
        c.is("the next number", x.file(1, 0), 2);
    }

    private static void madeAnew(Check c) {
        c.says("the directory is made anew");
        AppendStore x = new AppendStore();
        x.put(1, 1, 5, 1);
        x.open(false);
        x.put(1, 1, 6, 1);
        x.spoil(1, 9, false, 1);
        c.refuses(Check.UNSUPPORTED, "get before", () -> x.get(1, 1));
        c.is("open", x.open(false), 1);
        c.is("the record before it is the latest", x.get(1, 1), 5);
        c.is("its file", x.key(0, 2), 1);
        AppendStore y = new AppendStore();
        y.put(1, 1, 5, 1);
        y.lose(0);
        c.is("open after a loss", y.open(false), 0);
        c.refuses(Check.NONE, "get after a loss", () -> y.get(1, 1));
    }

    private static void orderOfFiles(Check c) {
        c.says("by files in order of their numbers");
        AppendStore x = new AppendStore();
        for (int i = 1; i <= 4; i++) {
            x.put(7, 1, i, 1);
            x.put(10 + i, 1, i, 1);
            c.is("open " + i, x.open(i % 2 == 0), 1 + i);
            c.is("the latest value", x.get(7, 1), i);
        }
        x.merge(8);
        x.put(7, 1, 5, 1);
        x.put(11, 1, 6, 1);
        c.is("open after a merge", x.open(true), 5);
        c.is("the latest is in the file behind the merged one", x.get(7, 1), 5);
        c.is("so is this", x.get(11, 1), 6);
        c.is("and this is in the merged one", x.get(12, 1), 2);
    }

    private static void openStore(Check c) {
        c.says("also an open store: what is not synced is not lost then, and a merge is");
        AppendStore x = new AppendStore();
        Check.fill(x, 0, 6);
        c.is("merge(4) of 5", x.merge(4), false);
        c.is("open", x.open(true), 6);
        c.is("bytes that were not synced", x.file(1, 1), 17);
        c.is("they are synced now", x.file(1, 2), 17);
        c.is("the merge begins anew", x.merge(5), false);
        c.is("and takes all files", x.merge(1), true);
    }

    private static void howManyKeys(Check c) {
        c.says("how many keys have values");
        AppendStore x = new AppendStore();
        c.is("open of a new store", x.open(true), 0);
        c.is("open of it again", x.open(false), 0);
        for (int i = 0; i < 66; i++) {
            x.put(i, 1, 0, 0);
        }
        c.is("open of a full store", x.open(false), 66);
        c.is("keys()", x.keys(), 66);
        for (int k = 0; k < 66; k++) {
            c.is("key " + k, x.key(k, 1), k);
        }
        c.refuses(Check.NONE, "key behind the last", () -> x.key(66, 0));
    }
}
