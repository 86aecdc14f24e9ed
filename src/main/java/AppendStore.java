import java.util.NoSuchElementException;

/** A store of keys and values that only ever appends; the project's document says what it promises. */
public final class AppendStore {
    private static final int MOST_FILES = 6;
    private static final int MOST_STEPS = 20;

    private final Shelf shelf;
    private final Directory directory;
    private final Merger merger;
    private int changes;
    private boolean closed;

    public AppendStore() {
        shelf = new Shelf();
        directory = new Directory();
        merger = new Merger();
        changes = 0;
        closed = false;
    }

    public void put(long key, int keySize, long value, int valueSize)
            throws IllegalArgumentException, IllegalStateException, UnsupportedOperationException {
        checkRange(keySize, 1, Layout.MOST_KEY);
        checkRange(valueSize, 0, Layout.MOST_VALUE);
        checkOpen();
        append(Key.rank(key, keySize), value, valueSize);
    }

    public boolean delete(long key, int keySize)
            throws IllegalArgumentException, IllegalStateException, UnsupportedOperationException {
        checkRange(keySize, 1, Layout.MOST_KEY);
        checkOpen();
        long rank = Key.rank(key, keySize);
        if (directory.find(rank) == null) {
            return false;
        }
        append(rank, 0L, Layout.TOMBSTONE);
        return true;
    }

    public long get(long key, int keySize)
            throws IllegalArgumentException, IllegalStateException, NoSuchElementException,
            UnsupportedOperationException {
        checkRange(keySize, 1, Layout.MOST_KEY);
        checkOpen();
        Rec rec = directory.find(Key.rank(key, keySize));
        if (rec == null) {
            throw new NoSuchElementException("the key has no value");
        }
        if (rec.isBroken()) {
            throw new UnsupportedOperationException("the record is broken");
        }
        return rec.value();
    }

    public int keys() throws IllegalStateException {
        checkOpen();
        return directory.count();
    }

    public long key(int k, int what)
            throws IllegalArgumentException, IllegalStateException, NoSuchElementException {
        checkRange(what, 0, 3);
        checkOpen();
        Rec rec = directory.at(k);
        if (rec == null) {
            throw new NoSuchElementException("there is no such key");
        }
        switch (what) {
            case 0:
                return Key.size(rec.rank);
            case 1:
                return Key.number(rec.rank);
            case 2:
                return rec.fileNumber();
            default:
                return rec.place;
        }
    }

    public void sync() throws IllegalStateException {
        checkOpen();
        shelf.syncActive();
    }

    public void lose(int more) throws IllegalArgumentException {
        checkRange(more, 0, Layout.FILE_BYTES);
        shelf.losePower(more);
        merger.drop();
        closed = true;
    }

    public int open(boolean hints) {
        merger.drop();
        directory.clear();
        shelf.sealActive();
        for (int i = 0; i < shelf.count(); i++) {
            StoreFile home = shelf.at(i);
            if (home != null) {
                home.learn(hints);
                enter(home);
            }
        }
        closed = false;
        return directory.count();
    }

    public boolean merge(int records) throws IllegalArgumentException, IllegalStateException {
        checkRange(records, 1, MOST_STEPS);
        checkOpen();
        if (!merger.goesOn()) {
            if (shelf.sealedCount() == 0) {
                throw new IllegalStateException("there is no sealed file");
            }
            merger.begin(shelf.sealedCount());
        }
        merger.advance(records, shelf, directory);
        if (!merger.cameToAll(shelf)) {
            return false;
        }
        merger.publish(shelf, directory);
        return true;
    }

    public int files() {
        return shelf.count();
    }

    public int file(int k, int what) throws IllegalArgumentException {
        checkRange(what, 0, 4);
        StoreFile home = shelf.at(k);
        if (home == null) {
            throw new IllegalArgumentException("there is no such file");
        }
        switch (what) {
            case 0:
                return home.number();
            case 1:
                return home.bytes().size();
            case 2:
                return home.synced();
            case 3:
                return closed ? 0 : home.liveBytes(directory);
            default:
                return home.hint().size();
        }
    }

    public int octet(int k, int i, boolean hint) throws IllegalArgumentException {
        return rowWith(k, i, hint).at(i);
    }

    public void spoil(int k, int i, boolean hint, int bits) throws IllegalArgumentException {
        Octets row = rowWith(k, i, hint);
        row.set(i, row.at(i) ^ bits);
    }

    private void checkOpen() {
        if (closed) {
            throw new IllegalStateException("the store is closed");
        }
    }

    private static void checkRange(int number, int least, int most) {
        if (number < least || number > most) {
            throw new IllegalArgumentException("a number is outside its range");
        }
    }

    /** The file's bytes or its hint, which has a byte i. */
    private Octets rowWith(int k, int i, boolean hint) {
        StoreFile home = shelf.at(k);
        if (home == null) {
            throw new IllegalArgumentException("there is no such file");
        }
        Octets row = hint ? home.hint() : home.bytes();
        if (!row.has(i)) {
            throw new IllegalArgumentException("there is no such byte");
        }
        return row;
    }

    private void append(long rank, long value, int valueSize) {
        StoreFile target = shelf.withRoomFor(Layout.recordBytes(Key.size(rank), valueSize));
        if (target == null) {
            throw new UnsupportedOperationException("full");
        }
        directory.enter(target.append(changes, rank, value, valueSize));
        changes = (changes + 1) & 65535;
    }

    private void enter(StoreFile home) {
        for (int i = 0; i < home.recordCount(); i++) {
            Rec rec = home.record(i);
            if (rec != null) {
                directory.enter(rec);
            }
        }
    }

    /** How records stand in files and entries in hints. */
    private static final class Layout {
        static final int FILE_BYTES = 100;
        static final int MOST_KEY = 4;
        static final int MOST_VALUE = 8;
        static final int TOMBSTONE = 255;
        static final int SUM = 4;
        static final int TIME = 2;
        /** In a record: where its sizes are, and how much stands in front of its key. */
        static final int KEY_SIZE_AT = 6;
        static final int VALUE_SIZE_AT = 7;
        static final int HEAD = 8;
        /** In an entry, which begins with what is behind a record's sum. */
        static final int ENTRY_KEY_SIZE_AT = KEY_SIZE_AT - SUM;
        static final int ENTRY_VALUE_SIZE_AT = VALUE_SIZE_AT - SUM;
        static final int ENTRY_PLACE_AT = HEAD - SUM;
        static final int ENTRY_HEAD = ENTRY_PLACE_AT + 1;
        /** A record has at least its head and one byte of a key. */
        static final int MOST_RECORDS = FILE_BYTES / (HEAD + 1);
        /** An entry is shorter than its record, so a hint is no longer than a file and a sum. */
        static final int HINT_BYTES = FILE_BYTES + SUM;

        static int valueBytes(int valueSize) {
            return valueSize == TOMBSTONE ? 0 : valueSize;
        }

        static int recordBytes(int keySize, int valueSize) {
            return HEAD + keySize + valueBytes(valueSize);
        }

        static boolean isKeySize(int size) {
            return size >= 1 && size <= MOST_KEY;
        }

        static boolean isValueSize(int size) {
            return size >= 0 && size <= MOST_VALUE;
        }
    }

    /** Keys as numbers (ranks) that are ordered as the keys are and are the same only for the same key. */
    private static final class Key {
        private static final int SIZE_BITS = 3;

        /** The bytes stand at the left, so that the first that differ decide, and then the sizes. */
        static long rank(long number, int size) {
            long bytes = number & ((1L << (8 * size)) - 1L);
            return ((bytes << missingBits(size)) << SIZE_BITS) | size;
        }

        static int size(long rank) {
            return (int) (rank & ((1L << SIZE_BITS) - 1L));
        }

        static long number(long rank) {
            return (rank >>> SIZE_BITS) >>> missingBits(size(rank));
        }

        private static int missingBits(int size) {
            return 8 * (Layout.MOST_KEY - size);
        }
    }

    /** A row of bytes that grows at its end up to a limit; it guards its own indices. */
    private static final class Octets {
        private final byte[] cells;
        private int size;

        Octets(int most) {
            cells = new byte[most];
            size = 0;
        }

        int size() {
            return size;
        }

        boolean has(int i) {
            return i >= 0 && i < size;
        }

        boolean hasRoomFor(int more) {
            return size + more <= cells.length;
        }

        int at(int i) {
            return i >= 0 && i < size ? cells[i] & 255 : 0;
        }

        void set(int i, int octet) {
            if (has(i)) {
                cells[i] = (byte) octet;
            }
        }

        void cutTo(int newSize) {
            if (newSize >= 0 && newSize < size) {
                size = newSize;
            }
        }

        void addByte(int octet) {
            if (size < cells.length) {
                cells[size] = (byte) octet;
                size++;
            }
        }

        /** The lowest n bytes, the highest of them first. */
        void addNumber(long number, int n) {
            for (int i = n - 1; i >= 0; i--) {
                addByte((int) (number >>> (8 * i)));
            }
        }

        void addFrom(Octets other, int from, int n) {
            for (int i = 0; i < n; i++) {
                addByte(other.at(from + i));
            }
        }

        long number(int from, int n) {
            long number = 0;
            for (int i = 0; i < n; i++) {
                number = (number << 8) | at(from + i);
            }
            return number;
        }

        void setSum(int place, long sum) {
            for (int i = 0; i < Layout.SUM; i++) {
                set(place + i, (int) (sum >>> (8 * (Layout.SUM - 1 - i))));
            }
        }

        /** The CRC of the bytes from a place on, up to but without an end. */
        long sum(int from, int end) {
            int c = -1;
            for (int i = from; i < end; i++) {
                c = c ^ at(i);
                for (int bit = 0; bit < 8; bit++) {
                    c = (c & 1) != 0 ? (c >>> 1) ^ 0xEDB88320 : c >>> 1;
                }
            }
            return ~c & 0xFFFFFFFFL;
        }
    }

    /** What the store knows of a record, whatever is spoilt in its bytes later. */
    private static final class Rec {
        StoreFile home;
        int place;
        long rank;
        int valueSize;
        /** In a merge's output: the record of which this one is a copy. */
        Rec source;

        boolean isTombstone() {
            return valueSize == Layout.TOMBSTONE;
        }

        int keySize() {
            return Key.size(rank);
        }

        int size() {
            return Layout.recordBytes(keySize(), valueSize);
        }

        int fileNumber() {
            return home == null ? 0 : home.number();
        }

        boolean isBroken() {
            return home == null || !home.hasRightSum(place, size());
        }

        long value() {
            return home == null ? 0L
                    : home.bytes().number(place + Layout.HEAD + keySize(), Layout.valueBytes(valueSize));
        }

        void addBytesTo(Octets row) {
            if (home != null) {
                row.addFrom(home.bytes(), place, size());
            }
        }
    }

    /** A file: its bytes, how many are synced, its hint, and what is known of its records. */
    private static final class StoreFile {
        private final Octets bytes;
        private final Octets hint;
        private final Rec[] records;
        private int recordCount;
        private int number;
        private int synced;

        StoreFile() {
            bytes = new Octets(Layout.FILE_BYTES);
            hint = new Octets(Layout.HINT_BYTES);
            records = new Rec[Layout.MOST_RECORDS];
            for (int i = 0; i < records.length; i++) {
                records[i] = new Rec();
            }
        }

        void begin(int newNumber) {
            bytes.cutTo(0);
            hint.cutTo(0);
            recordCount = 0;
            number = newNumber;
            synced = 0;
        }

        int number() {
            return number;
        }

        int synced() {
            return synced;
        }

        Octets bytes() {
            return bytes;
        }

        Octets hint() {
            return hint;
        }

        int recordCount() {
            return recordCount;
        }

        Rec record(int i) {
            return i >= 0 && i < recordCount ? records[i] : null;
        }

        void syncAll() {
            synced = bytes.size();
        }

        void losePower(int more) {
            bytes.cutTo(synced + more);
            syncAll();
        }

        int liveBytes(Directory directory) {
            int live = 0;
            for (int i = 0; i < recordCount; i++) {
                if (directory.has(records[i])) {
                    live += records[i].size();
                }
            }
            return live;
        }

        Rec append(int time, long rank, long value, int valueSize) {
            int place = bytes.size();
            int keySize = Key.size(rank);
            bytes.addNumber(0L, Layout.SUM);
            bytes.addNumber(time, Layout.TIME);
            bytes.addByte(keySize);
            bytes.addByte(valueSize);
            bytes.addNumber(Key.number(rank), keySize);
            bytes.addNumber(value, Layout.valueBytes(valueSize));
            bytes.setSum(place, bytes.sum(place + Layout.SUM, bytes.size()));
            return note(place, rank, valueSize, null);
        }

        void appendCopy(Rec source) {
            int place = bytes.size();
            source.addBytesTo(bytes);
            note(place, source.rank, source.valueSize, source);
        }

        boolean hasRightSum(int place, int size) {
            return bytes.number(place, Layout.SUM) == bytes.sum(place + Layout.SUM, place + size);
        }

        /** Makes a merge's output a sealed file with a hint. */
        void publishAs(int newNumber) {
            number = newNumber;
            syncAll();
            for (int i = 0; i < recordCount; i++) {
                int place = records[i].place;
                hint.addFrom(bytes, place + Layout.SUM, Layout.ENTRY_PLACE_AT);
                hint.addByte(place);
                hint.addFrom(bytes, place + Layout.HEAD, records[i].keySize());
            }
            hint.addNumber(hint.sum(0, hint.size()), Layout.SUM);
        }

        /** Finds out anew what records there are, as opening does. */
        void learn(boolean hints) {
            if (!hints || !learnFromHint()) {
                learnFromBytes();
            }
            syncAll();
        }

        /** False when the hint does not fit the file: what was noted until then counts for nothing. */
        private boolean learnFromHint() {
            int end = hint.size() - Layout.SUM;
            if (end < 0 || hint.number(end, Layout.SUM) != hint.sum(0, end)) {
                return false;
            }
            recordCount = 0;
            int place = 0;
            int entry = 0;
            for (int i = 0; i < Layout.MOST_RECORDS && entry < end; i++) {
                int keySize = hint.at(entry + Layout.ENTRY_KEY_SIZE_AT);
                int valueSize = hint.at(entry + Layout.ENTRY_VALUE_SIZE_AT);
                if (!Layout.isKeySize(keySize) || !Layout.isValueSize(valueSize)
                        || hint.at(entry + Layout.ENTRY_PLACE_AT) != place) {
                    return false;
                }
                long rank = Key.rank(hint.number(entry + Layout.ENTRY_HEAD, keySize), keySize);
                note(place, rank, valueSize, null);
                place += Layout.recordBytes(keySize, valueSize);
                entry += Layout.ENTRY_HEAD + keySize;
            }
            return entry == end && place == bytes.size();
        }

        /** Cuts the file off where no sound record is. */
        private void learnFromBytes() {
            recordCount = 0;
            int place = 0;
            for (int i = 0; i < Layout.MOST_RECORDS; i++) {
                int size = soundSize(place);
                if (size == 0) {
                    break;
                }
                int keySize = bytes.at(place + Layout.KEY_SIZE_AT);
                long rank = Key.rank(bytes.number(place + Layout.HEAD, keySize), keySize);
                note(place, rank, bytes.at(place + Layout.VALUE_SIZE_AT), null);
                place += size;
            }
            bytes.cutTo(place);
        }

        /** The size of the record at a place, 0 when none is there whole and right. */
        private int soundSize(int place) {
            if (place + Layout.HEAD > bytes.size()) {
                return 0;
            }
            int keySize = bytes.at(place + Layout.KEY_SIZE_AT);
            int valueSize = bytes.at(place + Layout.VALUE_SIZE_AT);
            boolean isTombstone = valueSize == Layout.TOMBSTONE;
            if (!Layout.isKeySize(keySize) || !(isTombstone || Layout.isValueSize(valueSize))) {
                return 0;
            }
            int size = Layout.recordBytes(keySize, valueSize);
            return place + size <= bytes.size() && hasRightSum(place, size) ? size : 0;
        }

        /** The row of records never runs over: no file has room for more records. */
        private Rec note(int place, long rank, int valueSize, Rec source) {
            if (recordCount < records.length) {
                recordCount++;
            }
            Rec rec = records[recordCount - 1];
            rec.home = this;
            rec.place = place;
            rec.rank = rank;
            rec.valueSize = valueSize;
            rec.source = source;
            return rec;
        }
    }

    /** The latest record of each key that has a value, in the order of the keys. */
    private static final class Directory {
        private final Rec[] rows;
        private int count;

        Directory() {
            rows = new Rec[MOST_FILES * Layout.MOST_RECORDS];
            count = 0;
        }

        int count() {
            return count;
        }

        void clear() {
            count = 0;
        }

        Rec at(int k) {
            return k >= 0 && k < count ? rows[k] : null;
        }

        Rec find(long rank) {
            Rec rec = at(firstFrom(rank));
            return rec != null && rec.rank == rank ? rec : null;
        }

        boolean has(Rec rec) {
            return find(rec.rank) == rec;
        }

        void enter(Rec rec) {
            int i = firstFrom(rec.rank);
            Rec there = at(i);
            boolean known = there != null && there.rank == rec.rank;
            if (rec.isTombstone()) {
                if (known) {
                    takeOut(i);
                }
            } else if (known) {
                rows[i] = rec;
            } else {
                insert(i, rec);
            }
        }

        /** A record that is here no longer has been followed by another: its copy is stale. */
        void replace(Rec source, Rec copy) {
            if (source != null && has(source)) {
                enter(copy);
            }
        }

        private int firstFrom(long rank) {
            int i = 0;
            while (i < count && rows[i].rank < rank) {
                i++;
            }
            return i;
        }

        private void insert(int i, Rec rec) {
            if (count == rows.length) {
                return;
            }
            for (int j = count; j > i; j--) {
                rows[j] = rows[j - 1];
            }
            rows[i] = rec;
            count++;
        }

        private void takeOut(int i) {
            for (int j = i; j < count - 1; j++) {
                rows[j] = rows[j + 1];
            }
            count--;
        }
    }

    /** The files in the order of their numbers; what stands behind the last of them is free for new ones. */
    private static final class Shelf {
        private final StoreFile[] slots;
        private int count;
        private StoreFile active;
        private int lastNumber;

        Shelf() {
            slots = new StoreFile[MOST_FILES];
            for (int i = 0; i < slots.length; i++) {
                slots[i] = new StoreFile();
            }
            count = 0;
            active = null;
            lastNumber = 0;
        }

        int count() {
            return count;
        }

        StoreFile at(int k) {
            return k >= 0 && k < count ? slots[k] : null;
        }

        int sealedCount() {
            return active == null ? count : count - 1;
        }

        /** The file to which so many bytes can be appended; null, and nothing done, when it is full. */
        StoreFile withRoomFor(int size) {
            if (active != null && active.bytes().hasRoomFor(size)) {
                return active;
            }
            if (count == slots.length) {
                return null;
            }
            sealActive();
            lastNumber++;
            active = slots[count];
            active.begin(lastNumber);
            count++;
            return active;
        }

        void syncActive() {
            if (active != null) {
                active.syncAll();
            }
        }

        void sealActive() {
            syncActive();
            active = null;
        }

        /** Sealed files are synced, so that only the active one can lose bytes. */
        void losePower(int more) {
            if (active != null) {
                active.losePower(more);
            }
            active = null;
        }

        /** Puts a file in the place of another, which is handed back for later use. */
        StoreFile exchange(int k, StoreFile fresh) {
            if (k < 0 || k >= count) {
                return fresh;
            }
            StoreFile old = slots[k];
            slots[k] = fresh;
            return old;
        }

        void takeOut(int k) {
            if (k < 0 || k >= count) {
                return;
            }
            StoreFile gone = slots[k];
            for (int i = k; i < slots.length - 1; i++) {
                slots[i] = slots[i + 1];
            }
            slots[slots.length - 1] = gone;
            count--;
        }
    }

    /** A merge of the first files of the shelf, a record at a time. */
    private static final class Merger {
        private final StoreFile[] outputs;
        private int outputCount;
        /** How many files are merged; 0 when no merge goes on. */
        private int taken;
        private int atFile;
        private int atRecord;

        Merger() {
            outputs = new StoreFile[MOST_FILES];
            for (int i = 0; i < outputs.length; i++) {
                outputs[i] = new StoreFile();
            }
            taken = 0;
        }

        boolean goesOn() {
            return taken > 0;
        }

        void begin(int sealedCount) {
            taken = sealedCount;
            outputCount = 0;
            atFile = 0;
            atRecord = 0;
        }

        void drop() {
            taken = 0;
        }

        void advance(int steps, Shelf shelf, Directory directory) {
            for (int i = 0; i < steps && !cameToAll(shelf); i++) {
                StoreFile home = shelf.at(atFile);
                Rec rec = home == null ? null : home.record(atRecord);
                if (rec != null && directory.has(rec)) {
                    outputFor(rec.size()).appendCopy(rec);
                }
                atRecord++;
            }
        }

        /** Files without records behind the last record hold nothing up. */
        boolean cameToAll(Shelf shelf) {
            while (atFile < taken) {
                StoreFile home = shelf.at(atFile);
                if (home != null && atRecord < home.recordCount()) {
                    return false;
                }
                atFile++;
                atRecord = 0;
            }
            return true;
        }

        void publish(Shelf shelf, Directory directory) {
            for (int i = 0; i < outputCount; i++) {
                StoreFile output = outputs[i];
                StoreFile replaced = shelf.at(i);
                output.publishAs(replaced == null ? 0 : replaced.number());
                pointToCopies(output, directory);
                outputs[i] = shelf.exchange(i, output);
            }
            for (int i = outputCount; i < taken; i++) {
                shelf.takeOut(outputCount);
            }
            drop();
        }

        private static void pointToCopies(StoreFile output, Directory directory) {
            for (int i = 0; i < output.recordCount(); i++) {
                Rec copy = output.record(i);
                if (copy != null) {
                    directory.replace(copy.source, copy);
                }
            }
        }

        /** There are never more outputs than files taken: fewer records in the same order need no more. */
        private StoreFile outputFor(int size) {
            boolean fits = outputCount > 0 && outputs[outputCount - 1].bytes().hasRoomFor(size);
            if (!fits && outputCount < outputs.length) {
                outputs[outputCount].begin(0);
                outputCount++;
            }
            return outputs[outputCount - 1];
        }
    }
}
