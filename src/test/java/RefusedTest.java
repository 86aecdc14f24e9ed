import java.util.ArrayList;
import java.util.List;
import java.util.function.Consumer;
import java.util.function.Supplier;

/** A refused call throws what the document says and changes nothing: a twin that did not get it is the same. */
public final class RefusedTest {
    /** A call that is refused. */
    record Refusal(String call, Class<?> due, Consumer<AppendStore> body) {
    }

    public static void main(String[] args) {
        Check c = new Check();
        c.says("A call of the face throws exactly what and where the document says");
        inAnyState(c, "a new store", AppendStore::new, Check.STATE);
        inAnyState(c, "a busy store", RefusedTest::busy, null);
        inAnyState(c, "a closed store", RefusedTest::closed, Check.STATE);
        inOpenStores(c, "a new store", AppendStore::new);
        inOpenStores(c, "a busy store", RefusedTest::busy);
        whenClosed(c);
        whenFull(c);
        withoutSealedFiles(c);
        withBrokenRecords(c);
        c.end();
    }

    /** A published file, a sealed one, an active one with bytes that are not synced, and a merge that goes on. */
    private static AppendStore busy() {
        AppendStore x = new AppendStore();
        x.put(1, 1, 5, 1);
        x.open(false);
        x.merge(1);
        x.put(2, 1, 6, 0);
        x.put(4, 1, 6, 0);
        x.open(true);
        x.delete(2, 1);
        x.sync();
        x.put(3, 1, 8, 1);
        x.merge(1);
        return x;
    }

    private static AppendStore closed() {
        AppendStore x = busy();
        x.lose(7);
        return x;
    }

    private static void inAnyState(Check c, String name, Supplier<AppendStore> state, Class<?> ofMerge) {
        List<Refusal> all = new ArrayList<>();
        for (int size : new int[] {0, 5, -1, Integer.MIN_VALUE, Integer.MAX_VALUE}) {
            all.add(new Refusal("put(1, " + size + ", 1, 1)", Check.ARGUMENT, x -> x.put(1, size, 1, 1)));
            all.add(new Refusal("delete(1, " + size + ")", Check.ARGUMENT, x -> x.delete(1, size)));
            all.add(new Refusal("get(1, " + size + ")", Check.ARGUMENT, x -> x.get(1, size)));
        }
        for (int size : new int[] {-1, 9, 255, Integer.MIN_VALUE, Integer.MAX_VALUE}) {
            all.add(new Refusal("put(1, 1, 1, " + size + ")", Check.ARGUMENT, x -> x.put(1, 1, 1, size)));
        }
        for (int what : new int[] {-1, 4, Integer.MIN_VALUE, Integer.MAX_VALUE}) {
            all.add(new Refusal("key(0, " + what + ")", Check.ARGUMENT, x -> x.key(0, what)));
            all.add(new Refusal("key(99, " + what + ")", Check.ARGUMENT, x -> x.key(99, what)));
        }
        for (int more : new int[] {-1, 101, Integer.MIN_VALUE, Integer.MAX_VALUE}) {
            all.add(new Refusal("lose(" + more + ")", Check.ARGUMENT, x -> x.lose(more)));
        }
        for (int records : new int[] {0, 21, -1, Integer.MIN_VALUE, Integer.MAX_VALUE}) {
            all.add(new Refusal("merge(" + records + ")", Check.ARGUMENT, x -> x.merge(records)));
        }
        if (ofMerge != null) {
            all.add(new Refusal("merge(1)", ofMerge, x -> x.merge(1)));
        }
        addWrongFiles(all);
        for (Refusal refusal : all) {
            changesNothing(c, name, state, refusal);
        }
    }

    private static void addWrongFiles(List<Refusal> all) {
        for (int what : new int[] {-1, 5, Integer.MIN_VALUE, Integer.MAX_VALUE}) {
            all.add(new Refusal("file(0, " + what + ")", Check.ARGUMENT, x -> x.file(0, what)));
        }
        for (int k : new int[] {-1, 3, 6, Integer.MIN_VALUE, Integer.MAX_VALUE}) {
            all.add(new Refusal("file(" + k + ", 0)", Check.ARGUMENT, x -> x.file(k, 0)));
            all.add(new Refusal("octet(" + k + ", 0)", Check.ARGUMENT, x -> x.octet(k, 0, false)));
            all.add(new Refusal("spoil(" + k + ", 0)", Check.ARGUMENT, x -> x.spoil(k, 0, false, 1)));
            all.add(new Refusal("spoil(" + k + ", 0) of a hint", Check.ARGUMENT, x -> x.spoil(k, 0, true, 1)));
        }
        for (int i : new int[] {-1, 10, 99, 100, Integer.MIN_VALUE, Integer.MAX_VALUE}) {
            for (boolean hint : new boolean[] {false, true}) {
                all.add(new Refusal("octet(0, " + i + ", " + hint + ")", Check.ARGUMENT, x -> x.octet(0, i, hint)));
                all.add(new Refusal("spoil(0, " + i + ", " + hint + ")", Check.ARGUMENT,
                        x -> x.spoil(0, i, hint, 255)));
            }
        }
        all.add(new Refusal("octet of no hint", Check.ARGUMENT, x -> x.octet(1, 0, true)));
        all.add(new Refusal("spoil of no hint", Check.ARGUMENT, x -> x.spoil(1, 0, true, 255)));
    }

    private static void inOpenStores(Check c, String name, Supplier<AppendStore> state) {
        for (int size = 1; size <= 4; size++) {
            int n = size;
            changesNothing(c, name, state, new Refusal("get of nothing", Check.NONE, x -> x.get(77, n)));
            same(c, name + ": delete of nothing", state, x -> c.is("delete of nothing", x.delete(77, n), false));
        }
        for (int k : new int[] {-1, 3, 66, Integer.MIN_VALUE, Integer.MAX_VALUE}) {
            for (int what = 0; what <= 3; what++) {
                int w = what;
                changesNothing(c, name, state, new Refusal("key(" + k + ", " + w + ")", Check.NONE, x -> x.key(k, w)));
            }
        }
    }

    private static void whenClosed(Check c) {
        List<Refusal> all = List.of(
                new Refusal("put", Check.STATE, x -> x.put(1, 1, 1, 1)),
                new Refusal("delete", Check.STATE, x -> x.delete(1, 1)),
                new Refusal("delete of nothing", Check.STATE, x -> x.delete(77, 1)),
                new Refusal("get", Check.STATE, x -> x.get(1, 1)),
                new Refusal("get of nothing", Check.STATE, x -> x.get(77, 1)),
                new Refusal("keys", Check.STATE, AppendStore::keys),
                new Refusal("key", Check.STATE, x -> x.key(0, 0)),
                new Refusal("key of nothing", Check.STATE, x -> x.key(77, 3)),
                new Refusal("sync", Check.STATE, AppendStore::sync),
                new Refusal("merge", Check.STATE, x -> x.merge(20)));
        for (Refusal refusal : all) {
            changesNothing(c, "a closed store", RefusedTest::closed, refusal);
        }
    }

    /** Six files, of which the last is active and has room for ten bytes more. */
    private static AppendStore full() {
        AppendStore x = new AppendStore();
        for (int i = 0; i < 5; i++) {
            x.put(1, 1, 0, 0);
            x.open(false);
        }
        Check.putFive(x, 90);
        return x;
    }

    private static void whenFull(Check c) {
        List<Refusal> all = List.of(
                new Refusal("put of a new key", Check.UNSUPPORTED, x -> x.put(77, 1, 1, 2)),
                new Refusal("put of a key that has a value", Check.UNSUPPORTED, x -> x.put(1, 1, 1, 8)),
                new Refusal("put of the longest", Check.UNSUPPORTED, x -> x.put(1, 4, 1, 8)));
        for (Refusal refusal : all) {
            changesNothing(c, "a full store", RefusedTest::full, refusal);
        }
        Supplier<AppendStore> fuller = () -> {
            AppendStore x = full();
            x.put(1, 2, 0, 0);
            return x;
        };
        changesNothing(c, "a full store", fuller, new Refusal("put", Check.UNSUPPORTED, x -> x.put(1, 1, 0, 0)));
        changesNothing(c, "a full store", fuller, new Refusal("delete", Check.UNSUPPORTED, x -> x.delete(1, 1)));
        same(c, "a full store: delete of nothing", fuller, x -> c.is("delete of nothing", x.delete(77, 1), false));
        Supplier<AppendStore> opened = () -> {
            AppendStore x = full();
            x.open(false);
            return x;
        };
        changesNothing(c, "six sealed files", opened, new Refusal("put", Check.UNSUPPORTED, x -> x.put(1, 1, 0, 0)));
        changesNothing(c, "six sealed files", opened, new Refusal("delete", Check.UNSUPPORTED, x -> x.delete(1, 1)));
    }

    private static void withoutSealedFiles(Check c) {
        Supplier<AppendStore> state = () -> {
            AppendStore x = new AppendStore();
            x.put(1, 1, 5, 1);
            x.sync();
            x.put(2, 1, 6, 1);
            return x;
        };
        for (int records : new int[] {1, 20}) {
            changesNothing(c, "an active file alone", state,
                    new Refusal("merge(" + records + ")", Check.STATE, x -> x.merge(records)));
        }
    }

    private static void withBrokenRecords(Check c) {
        Supplier<AppendStore> state = () -> {
            AppendStore x = busy();
            x.spoil(0, 0, false, 1);
            return x;
        };
        changesNothing(c, "a broken record", state, new Refusal("get", Check.UNSUPPORTED, x -> x.get(1, 1)));
    }

    private static void changesNothing(Check c, String name, Supplier<AppendStore> state, Refusal refusal) {
        same(c, name + ": " + refusal.call(), state, x -> c.refusesAct(refusal.due(), name + ": " + refusal.call(),
                () -> refusal.body().accept(x)));
    }

    /** After the call, and after some more calls, all is as in a store that did not get it. */
    private static void same(Check c, String call, Supplier<AppendStore> state, Consumer<AppendStore> body) {
        AppendStore x = state.get();
        AppendStore twin = state.get();
        body.accept(x);
        c.is("what is seen after " + call, View.of(x), View.of(twin));
        c.is("later answers after " + call, later(x), later(twin));
    }

    /** What some more calls answer: an active file, the time, a merge that goes on and what is synced show here. */
    private static String later(AppendStore x) {
        StringBuilder text = new StringBuilder();
        add(text, () -> x.merge(2));
        add(text, () -> {
            x.put(9, 1, 0, 0);
            return View.brief(x);
        });
        for (int i = 4; i < 6 && x.files() > 0; i++) {
            int at = x.file(x.files() - 1, 1) - 9 + i;
            add(text, () -> x.octet(x.files() - 1, at, false));
        }
        add(text, () -> x.merge(2));
        add(text, () -> x.merge(1));
        x.lose(3);
        add(text, () -> x.open(false));
        return text.append(View.brief(x)).toString();
    }

    private static void add(StringBuilder text, Check.Call call) {
        try {
            text.append(call.run());
        } catch (RuntimeException e) {
            text.append(e.getClass().getSimpleName());
        }
        text.append('\n');
    }
}
