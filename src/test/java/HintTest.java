/** The sentences about hints: what is in them, and which ones are taken in opening. */
public final class HintTest {
    public static void main(String[] args) {
        Check c = new Check();
        entries(c);
        places(c);
        hintsWanted(c);
        rightSum(c);
        forgedEntries(c);
        moreThanItsEntries(c);
        moreThanElevenEntries(c);
        keysOfEntries(c);
        cutFile(c);
        noHint(c);
        c.end();
    }

    private static void entries(Check c) {
        c.says("for each record of the file, in order: the four bytes behind the sum as they are there (time and"
                + " sizes), one byte the place, the key's bytes as they are there");
        AppendStore x = new AppendStore();
        x.put(0x01, 1, 7, 8);
        x.put(0x0203, 2, 7, 0);
        x.put(0x99, 1, 7, 0);
        x.put(0xFFFEFD, 3, 7, 1);
        x.delete(0x99, 1);
        x.put(0x80818283L, 4, 7, 7);
        x.open(false);
        c.is("merge", x.merge(6), true);
        c.bytes("hint", x, 0, true, Check.hint(
                0, 0, 1, 8, 0, 1,
                0, 1, 2, 0, 17, 2, 3,
                0, 3, 3, 1, 27, 0xFF, 0xFE, 0xFD,
                0, 5, 4, 7, 39, 0x80, 0x81, 0x82, 0x83));
        c.is("open with it", x.open(true), 4);
        c.is("get of one byte", x.get(0x01, 1), 7);
        c.is("get of two", x.get(0x0203, 2), 0);
        c.is("get of three", x.get(0xFFFEFD, 3), 7);
        c.is("get of four", x.get(0x80818283L, 4), 7);
    }

    private static void places(Check c) {
        c.says("one byte the place");
        AppendStore x = new AppendStore();
        for (int i = 0; i < 11; i++) {
            x.put(i, 1, 0, 0);
        }
        x.open(false);
        x.merge(11);
        c.is("bytes of the longest hint", x.file(0, 4), 70);
        for (int i = 0; i < 11; i++) {
            c.is("place of entry " + i, x.octet(0, 6 * i + 4, true), 9 * i);
        }
        x.spoil(0, 0, false, 1);
        c.is("open with it", x.open(true), 11);
        c.is("the last key's place", x.key(10, 3), 90);
    }

    private static void hintsWanted(Check c) {
        c.says("A file with a HINT (with hints wanted)");
        AppendStore x = published();
        x.spoil(0, 0, false, 1);
        c.is("open(true)", x.open(true), 2);
        c.is("nothing is cut off", x.file(0, 1), 28);
        c.is("live bytes", x.file(0, 3), 28);
        c.refuses(Check.UNSUPPORTED, "get of what was not gone over", () -> x.get(0x0101, 2));
        c.is("open(false)", x.open(false), 0);
        c.is("it is cut off", x.file(0, 1), 0);
    }

    /** A file of two records, of 18 and 10 bytes, with a hint of 13 bytes and a sum. */
    private static AppendStore published() {
        AppendStore x = new AppendStore();
        x.put(0x0101, 2, 7, 8);
        x.put(1, 1, 7, 1);
        x.open(false);
        x.merge(2);
        return x;
    }

    private static void rightSum(Check c) {
        c.says("whose sum is right");
        for (int i = 0; i < 17; i++) {
            for (int bit = 1; bit < 256; bit *= 2) {
                AppendStore x = published();
                x.spoil(0, i, true, bit);
                x.spoil(0, 27, false, 1);
                c.is("open(true) with bit " + bit + " of byte " + i, x.open(true), 1);
                c.is("bytes then", x.file(0, 1), 18);
            }
        }
        AppendStore y = published();
        y.spoil(0, 5, true, 1);
        c.is("a wrong hint of a right file", y.open(true), 2);
        y.spoil(0, 5, true, 1);
        y.spoil(0, 27, false, 1);
        c.is("the hint mended, the file spoilt", y.open(true), 2);
    }

    /** Hints with right sums and all sizes and places about the edges. */
    private static void forgedEntries(Check c) {
        c.says("whose entries have a key's size of 1 to 4, a value's of 0 to 8, and places and sizes of records one"
                + " behind the other, from the beginning of the file to its end");
        int[] valueSizes = {0, 1, 2, 7, 8, 9, 10, 255};
        for (int first = 0; first <= 4; first++) {
            for (int value : valueSizes) {
                for (int lastValue : valueSizes) {
                    int end = 8 + first + (value == 255 ? 0 : value);
                    for (int place = end - 1; place <= end + 1; place++) {
                        forged(c, first, value, 0, place, lastValue);
                    }
                    forged(c, first, value, 1, end, lastValue);
                    forged(c, first, value, 1, end + 1, lastValue);
                }
            }
        }
    }

    private static void forged(Check c, int first, int value, int place, int lastPlace, int lastValue) {
        int last = 3 - first;
        int[] entries = new int[13];
        entries[2] = first;
        entries[3] = value;
        entries[4] = place;
        if (last >= 0) {
            entries[5 + first + 2] = last;
            entries[5 + first + 3] = lastValue;
            entries[5 + first + 4] = lastPlace;
        }
        boolean fits = first >= 1 && last >= 1 && value <= 8 && lastValue <= 8 && place == 0
                && lastPlace == 8 + first + value && lastPlace + 8 + last + lastValue == 28;
        AppendStore x = published();
        Check.forge(x, 0, true, Check.hint(entries));
        x.spoil(0, 27, false, 1);
        String call = "open(true) with sizes " + first + " " + value + " and " + last + " " + lastValue + " at "
                + place + " and " + lastPlace;
        x.open(true);
        c.is("bytes after " + call, x.file(0, 1), fits ? 28 : 18);
    }

    private static void moreThanItsEntries(Check c) {
        c.says("places and sizes of records one behind the other, from the beginning of the file to its end");
        AppendStore x = new AppendStore();
        x.put(1, 1, 7, 0);
        x.put(2, 1, 7, 2);
        x.open(false);
        x.merge(2);
        Check.forge(x, 0, true, Check.hint(0, 0, 4, 8, 0, 1, 1, 1, 1, 0, 0, 1));
        x.spoil(0, 0, false, 1);
        c.is("an entry for the whole file, and three bytes more", x.open(true), 0);

        AppendStore y = new AppendStore();
        for (int i = 0; i < 3; i++) {
            y.put(i, 1, 0, 0);
        }
        y.open(false);
        y.merge(3);
        Check.forge(y, 0, true, Check.hint(0, 0, 1, 8, 0, 1, 0, 0, 1, 1, 17, 2, 0, 0, 1, 0, 27, 3));
        y.spoil(0, 0, false, 1);
        c.is("entries for the whole file, and one more", y.open(true), 0);
    }

    /** No file has more than eleven records, but a hint may have room for eleven entries and more. */
    private static void moreThanElevenEntries(Check c) {
        c.says("places and sizes of records one behind the other, from the beginning of the file to its end");
        int[] entries = {};
        for (int i = 0; i < 11; i++) {
            entries = Check.join(entries, Check.row(0, 0, 1, i < 10 ? 0 : 1, 9 * i, i));
        }
        int[] more = Check.join(entries, Check.row(0, 0, 1, 0));
        c.is("eleven entries for the whole file, and four bytes more", openTen(more, 0), 10);
        c.is("the same, and the file is spoilt", openTen(more, 1), 0);
    }

    /** Opens a file of 100 bytes, ten records, whose hint is forged and whose first byte is spoilt. */
    private static int openTen(int[] entries, int bits) {
        AppendStore x = new AppendStore();
        for (int i = 0; i < 10; i++) {
            x.put(256 + i, 2, 0, 0);
        }
        x.open(false);
        x.merge(10);
        Check.forge(x, 0, true, Check.hint(entries));
        x.spoil(0, 0, false, bits);
        return x.open(true);
    }

    private static void keysOfEntries(Check c) {
        c.says("each entry's key is at its place");
        AppendStore x = published();
        Check.forge(x, 0, true, Check.hint(9, 9, 1, 8, 0, 0x55, 9, 9, 2, 1, 17, 0x66, 0x77));
        c.is("open(true)", x.open(true), 2);
        c.is("size of the first", x.key(0, 0), 1);
        c.is("number of the first", x.key(0, 1), 0x55);
        c.is("place of the first", x.key(0, 3), 0);
        c.is("size of the second", x.key(1, 0), 2);
        c.is("number of the second", x.key(1, 1), 0x6677);
        c.is("place of the second", x.key(1, 3), 17);
        c.is("live bytes", x.file(0, 3), 28);
        c.refuses(Check.UNSUPPORTED, "get of the first, the sum is of another size", () -> x.get(0x55, 1));
        c.is("open(false)", x.open(false), 2);
        c.is("get of the first as it is in the file", x.get(0x0101, 2), 7);
    }

    private static void cutFile(Check c) {
        c.says("from the beginning of the file to its end");
        AppendStore x = published();
        x.spoil(0, 27, false, 1);
        c.is("open(false)", x.open(false), 1);
        c.is("bytes", x.file(0, 1), 18);
        c.is("open(true) with a hint for more", x.open(true), 1);
        x.spoil(0, 0, false, 1);
        c.is("it is gone over", x.open(true), 0);
        c.is("open(true) with a hint for an empty file", x.open(true), 0);
        c.is("bytes then", x.file(0, 1), 0);
    }

    private static void noHint(Check c) {
        c.says("the bytes of its hint (0 for none)");
        AppendStore x = new AppendStore();
        x.put(1, 1, 0, 0);
        c.is("an active file", x.file(0, 4), 0);
        c.refuses(Check.ARGUMENT, "its first byte", () -> x.octet(0, 0, true));
        x.open(true);
        c.is("a sealed file", x.file(0, 4), 0);
        x.merge(1);
        c.is("a published file", x.file(0, 4), 10);
        x.put(2, 1, 0, 0);
        c.is("the next one", x.file(1, 4), 0);
        x.lose(100);
        c.is("a published file when closed", x.file(0, 4), 10);
        x.open(true);
        x.delete(1, 1);
        x.delete(2, 1);
        x.open(true);
        x.merge(20);
        c.is("all are gone", x.files(), 0);
        x.put(3, 1, 0, 0);
        c.is("a file in their place", x.file(0, 4), 0);
        x.open(true);
        c.is("its keys", x.keys(), 1);
        c.is("it has none when it was opened", x.file(0, 4), 0);
    }
}
