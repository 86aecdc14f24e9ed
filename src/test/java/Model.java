import java.util.ArrayList;
import java.util.HashMap;
import java.util.List;
import java.util.Map;
import java.util.NoSuchElementException;
import java.util.TreeMap;
import java.util.zip.CRC32;

/**
 * The document once more, written for plainness with the Java library: texts of characters 0 to 255 for
 * rows of bytes, a new directory at each publication. ModelTest compares the program with it.
 */
final class Model {
    /** What is known of a record: where it is and its sizes. */
    record Known(File file, int place, int keySize, int valueSize) {
        int size() {
            return 8 + keySize + (valueSize == 255 ? 0 : valueSize);
        }
    }

    static final class File {
        int number;
        String bytes = "";
        String hint = "";
        int synced;
        List<Known> records = new ArrayList<>();
    }

    final List<File> files = new ArrayList<>();
    final TreeMap<String, Known> directory = new TreeMap<>();
    File active;
    int lastNumber;
    int time;
    boolean closed;
    /** The records that the merge has still to come to; null when none goes on. */
    List<Known> ahead;
    List<File> taken;
    List<File> outputs;
    Map<Known, Known> copies;

    static String bytesOf(long number, int n) {
        String text = "";
        for (int i = 0; i < n; i++) {
            text = (char) (number & 255) + text;
            number >>= 8;
        }
        return text;
    }

    static long numberOf(String bytes) {
        long number = 0;
        for (char b : bytes.toCharArray()) {
            number = number * 256 + b;
        }
        return number;
    }

    static String sumOf(String bytes) {
        CRC32 crc = new CRC32();
        for (char b : bytes.toCharArray()) {
            crc.update(b);
        }
        return bytesOf(crc.getValue(), 4);
    }

    private void needs(boolean good) {
        if (!good) {
            throw new IllegalArgumentException();
        }
    }

    private void needsOpen() {
        if (closed) {
            throw new IllegalStateException();
        }
    }

    private static boolean between(long n, long least, long most) {
        return least <= n && n <= most;
    }

    void put(long key, int keySize, long value, int valueSize) {
        needs(between(keySize, 1, 4) && between(valueSize, 0, 8));
        needsOpen();
        directory.put(bytesOf(key, keySize), append(bytesOf(key, keySize), bytesOf(value, valueSize), valueSize));
    }

    boolean delete(long key, int keySize) {
        needs(between(keySize, 1, 4));
        needsOpen();
        if (!directory.containsKey(bytesOf(key, keySize))) {
            return false;
        }
        append(bytesOf(key, keySize), "", 255);
        directory.remove(bytesOf(key, keySize));
        return true;
    }

    private Known append(String key, String value, int valueSize) {
        String behind = bytesOf(time, 2) + (char) key.length() + (char) valueSize + key + value;
        String all = sumOf(behind) + behind;
        if (active == null || active.bytes.length() + all.length() > 100) {
            if (files.size() == 6) {
                throw new UnsupportedOperationException();
            }
            if (active != null) {
                active.synced = active.bytes.length();
            }
            active = new File();
            active.number = ++lastNumber;
            files.add(active);
        }
        Known known = new Known(active, active.bytes.length(), key.length(), valueSize);
        active.bytes += all;
        active.records.add(known);
        time = (time + 1) % 65536;
        return known;
    }

    long get(long key, int keySize) {
        needs(between(keySize, 1, 4));
        needsOpen();
        Known known = directory.get(bytesOf(key, keySize));
        if (known == null) {
            throw new NoSuchElementException();
        }
        String all = bytesAt(known);
        if (!all.startsWith(sumOf(all.substring(4)))) {
            throw new UnsupportedOperationException();
        }
        return numberOf(all.substring(8 + known.keySize));
    }

    private static String bytesAt(Known known) {
        return known.file.bytes.substring(known.place, known.place + known.size());
    }

    int keys() {
        needsOpen();
        return directory.size();
    }

    long key(int k, int what) {
        needs(between(what, 0, 3));
        needsOpen();
        if (!between(k, 0, directory.size() - 1)) {
            throw new NoSuchElementException();
        }
        String key = new ArrayList<>(directory.keySet()).get(k);
        Known known = directory.get(key);
        return List.of((long) key.length(), numberOf(key), (long) known.file.number, (long) known.place).get(what);
    }

    void sync() {
        needsOpen();
        if (active != null) {
            active.synced = active.bytes.length();
        }
    }

    void lose(int more) {
        needs(between(more, 0, 100));
        for (File f : files) {
            int left = Math.min(f.bytes.length(), f.synced + (f == active ? more : 0));
            f.bytes = f.bytes.substring(0, left);
            f.synced = left;
        }
        active = null;
        ahead = null;
        closed = true;
    }

    int open(boolean hints) {
        ahead = null;
        active = null;
        closed = false;
        directory.clear();
        for (File f : files) {
            Map<Known, String> found = hints ? inHint(f) : null;
            if (found == null) {
                found = inBytes(f);
                int end = f.records.isEmpty() ? 0 : last(f.records).place + last(f.records).size();
                f.bytes = f.bytes.substring(0, end);
            }
            f.synced = f.bytes.length();
            for (Known known : f.records) {
                if (known.valueSize == 255) {
                    directory.remove(found.get(known));
                } else {
                    directory.put(found.get(known), known);
                }
            }
        }
        return directory.size();
    }

    private static <T> T last(List<T> list) {
        return list.get(list.size() - 1);
    }

    private Map<Known, String> inHint(File f) {
        if (f.hint.isEmpty()) {
            return null;
        }
        String entries = f.hint.substring(0, f.hint.length() - 4);
        if (!f.hint.equals(entries + sumOf(entries))) {
            return null;
        }
        Map<Known, String> found = new HashMap<>();
        List<Known> records = new ArrayList<>();
        int place = 0;
        while (!entries.isEmpty()) {
            if (entries.length() < 5 || entries.length() < 5 + entries.charAt(2)) {
                return null;
            }
            Known known = new Known(f, entries.charAt(4), entries.charAt(2), entries.charAt(3));
            if (!between(known.keySize, 1, 4) || !between(known.valueSize, 0, 8) || known.place != place) {
                return null;
            }
            records.add(known);
            found.put(known, entries.substring(5, 5 + known.keySize));
            place += known.size();
            entries = entries.substring(5 + known.keySize);
        }
        if (place != f.bytes.length()) {
            return null;
        }
        f.records = records;
        return found;
    }

    private Map<Known, String> inBytes(File f) {
        Map<Known, String> found = new HashMap<>();
        f.records = new ArrayList<>();
        int place = 0;
        while (place + 8 <= f.bytes.length()) {
            Known known = new Known(f, place, f.bytes.charAt(place + 6), f.bytes.charAt(place + 7));
            boolean sized = between(known.keySize, 1, 4)
                    && (between(known.valueSize, 0, 8) || known.valueSize == 255);
            if (!sized || place + known.size() > f.bytes.length()) {
                break;
            }
            String all = bytesAt(known);
            if (!all.startsWith(sumOf(all.substring(4)))) {
                break;
            }
            f.records.add(known);
            found.put(known, all.substring(8, 8 + known.keySize));
            place += known.size();
        }
        return found;
    }

    boolean merge(int records) {
        needs(between(records, 1, 20));
        needsOpen();
        if (ahead == null) {
            List<File> sealed = new ArrayList<>(files);
            sealed.remove(active);
            if (sealed.isEmpty()) {
                throw new IllegalStateException();
            }
            taken = sealed;
            outputs = new ArrayList<>();
            copies = new HashMap<>();
            ahead = new ArrayList<>();
            sealed.forEach(f -> ahead.addAll(f.records));
        }
        for (int i = 0; i < records && !ahead.isEmpty(); i++) {
            Known known = ahead.remove(0);
            if (directory.containsValue(known)) {
                copy(known);
            }
        }
        if (!ahead.isEmpty()) {
            return false;
        }
        publish();
        return true;
    }

    private void copy(Known known) {
        if (outputs.isEmpty() || last(outputs).bytes.length() + known.size() > 100) {
            outputs.add(new File());
        }
        File output = last(outputs);
        Known copied = new Known(output, output.bytes.length(), known.keySize, known.valueSize);
        String all = bytesAt(known);
        output.bytes += all;
        output.records.add(copied);
        output.hint += all.substring(4, 8) + (char) copied.place + all.substring(8, 8 + known.keySize);
        copies.put(known, copied);
    }

    private void publish() {
        for (int i = 0; i < outputs.size(); i++) {
            File output = outputs.get(i);
            output.number = taken.get(i).number;
            output.synced = output.bytes.length();
            output.hint += sumOf(output.hint);
        }
        files.removeAll(taken);
        files.addAll(0, outputs);
        directory.replaceAll((key, known) -> copies.getOrDefault(known, known));
        ahead = null;
    }

    private File fileAt(int k) {
        needs(between(k, 0, files.size() - 1));
        return files.get(k);
    }

    int file(int k, int what) {
        needs(between(what, 0, 4));
        File f = fileAt(k);
        int live = 0;
        for (Known known : directory.values()) {
            live += known.file == f ? known.size() : 0;
        }
        return List.of(f.number, f.bytes.length(), f.synced, closed ? 0 : live, f.hint.length()).get(what);
    }

    int octet(int k, int i, boolean hint) {
        String row = hint ? fileAt(k).hint : fileAt(k).bytes;
        needs(between(i, 0, row.length() - 1));
        return row.charAt(i);
    }

    void spoil(int k, int i, boolean hint, int bits) {
        char turned = (char) (octet(k, i, hint) ^ (bits & 255));
        File f = fileAt(k);
        String row = hint ? f.hint : f.bytes;
        row = row.substring(0, i) + turned + row.substring(i + 1);
        if (hint) {
            f.hint = row;
        } else {
            f.bytes = row;
        }
    }
}
