/** What can be seen of a store, as a text; used on small stores, for an object is good for 512 calls only. */
final class View {
    static String of(AppendStore x) {
        StringBuilder text = new StringBuilder(brief(x));
        for (int k = 0; k < x.files(); k++) {
            octets(x, k, false, text);
            octets(x, k, true, text);
        }
        return text.toString();
    }

    /** All but the bytes of the files and of their hints. */
    static String brief(AppendStore x) {
        StringBuilder text = new StringBuilder();
        int files = x.files();
        for (int k = 0; k < files; k++) {
            text.append("file");
            for (int what = 0; what <= 4; what++) {
                text.append(' ').append(x.file(k, what));
            }
            text.append('\n');
        }
        return text.append(keys(x)).toString();
    }

    private static String keys(AppendStore x) {
        int keys;
        try {
            keys = x.keys();
        } catch (IllegalStateException e) {
            return "closed\n";
        }
        StringBuilder text = new StringBuilder();
        for (int k = 0; k < keys; k++) {
            text.append("key");
            for (int what = 0; what <= 3; what++) {
                text.append(' ').append(x.key(k, what));
            }
            text.append(" has ").append(value(x, x.key(k, 1), (int) x.key(k, 0))).append('\n');
        }
        return text.toString();
    }

    private static String value(AppendStore x, long key, int size) {
        try {
            return "" + x.get(key, size);
        } catch (UnsupportedOperationException e) {
            return "a broken record";
        }
    }

    private static void octets(AppendStore x, int k, boolean hint, StringBuilder text) {
        int size = x.file(k, hint ? 4 : 1);
        for (int i = 0; i < size; i++) {
            text.append(x.octet(k, i, hint)).append(' ');
        }
        text.append('\n');
    }
}
