import java.util.Map;
import java.util.Objects;
import java.util.TreeMap;

/** Many runs of 512 calls, the same on the program and on the model: every answer is the same. */
public final class ModelTest {
    private static final int RUNS = 3000;
    private static final int CALLS = 512;

    private final AppendStore x = new AppendStore();
    private final Model model = new Model();
    private final StringBuilder calls = new StringBuilder();
    private final Map<String, Integer> seen;
    private long seed;
    private int left = CALLS;
    private boolean wrong;
    private final int keyNumbers;
    private final int keySizes;
    private final int changes;
    private final int merges;
    private final int openings;
    private final int spoils;

    private ModelTest(long seed, Map<String, Integer> seen) {
        this.seed = seed;
        this.seen = seen;
        keyNumbers = 1 + next(40);
        keySizes = 1 + next(4);
        changes = 20 + next(60);
        merges = next(30);
        openings = next(12);
        spoils = next(3) == 0 ? next(10) : 0;
    }

    public static void main(String[] args) {
        Map<String, Integer> seen = new TreeMap<>();
        int wrongRuns = 0;
        for (int run = 0; run < RUNS && wrongRuns < 3; run++) {
            ModelTest test = new ModelTest(run * 7919L + 1, seen);
            test.play();
            if (test.wrong) {
                wrongRuns++;
                System.out.println("run " + run + ":\n" + test.calls);
            }
        }
        System.out.println(seen);
        System.out.println(wrongRuns == 0 ? "all answers are as due" : "answers are not as due");
        if (wrongRuns != 0) {
            System.exit(1);
        }
    }

    /** A fixed row of numbers that look mixed (splitmix), so that each run of the test is the same. */
    private int next(int bound) {
        seed += 0x9E3779B97F4A7C15L;
        long z = seed;
        z = (z ^ (z >>> 30)) * 0xBF58476D1CE4E5B9L;
        z = (z ^ (z >>> 27)) * 0x94D049BB133111EBL;
        return (int) Math.floorMod(z ^ (z >>> 31), (long) bound);
    }

    private void same(String call, Check.Call real, Check.Call due) {
        if (left == 0 || wrong) {
            return;
        }
        left--;
        Object got = answer(real);
        Object want = answer(due);
        String kind = call.substring(0, call.indexOf('('));
        boolean plain = want instanceof Boolean || want instanceof String;
        seen.merge(plain ? kind + " " + want : kind, 1, Integer::sum);
        calls.append(call).append(" answered ").append(got).append('\n');
        if (!Objects.equals(got, want)) {
            wrong = true;
            calls.append("due is ").append(want).append('\n');
        }
    }

    private static Object answer(Check.Call call) {
        try {
            return call.run();
        } catch (RuntimeException e) {
            return "throws." + e.getClass().getSimpleName();
        }
    }

    private void sameAct(String call, Check.Act real, Check.Act due) {
        same(call, () -> {
            real.run();
            return "";
        }, () -> {
            due.run();
            return "";
        });
    }

    private void play() {
        while (left > 0 && !wrong) {
            int dice = next(changes + merges + openings + spoils + 60);
            if (dice < changes) {
                change();
            } else if (dice < changes + merges) {
                int n = next(40) == 0 ? next(24) - 1 : 1 + next(20);
                same("merge(" + n + ")", () -> x.merge(n), () -> model.merge(n));
            } else if (dice < changes + merges + openings) {
                losing();
            } else if (dice < changes + merges + openings + spoils) {
                spoiling();
            } else {
                look();
            }
        }
    }

    private int keySize() {
        return next(60) == 0 ? next(7) - 1 : 1 + next(keySizes);
    }

    private long keyNumber() {
        long key = next(keyNumbers);
        return next(4) == 0 ? key | ((long) next(1 << 30) << 32) : next(6) == 0 ? (key << 8) ^ 0x80 : key;
    }

    /** Half of the keys are ones that have a value, as far as there are. */
    private String knownKey() {
        int n = next(2 * Math.max(1, model.directory.size()));
        return n < model.directory.size() ? (String) model.directory.keySet().toArray()[n] : "";
    }

    private void change() {
        String known = knownKey();
        int size = known.isEmpty() ? keySize() : known.length();
        long key = known.isEmpty() ? keyNumber() : Model.numberOf(known);
        if (next(4) == 0) {
            same("delete(" + key + ", " + size + ")", () -> x.delete(key, size), () -> model.delete(key, size));
            return;
        }
        int valueSize = next(60) == 0 ? next(12) - 1 : next(9);
        long value = ((long) next(1 << 30) << 34) ^ next(1 << 30);
        sameAct("put(" + key + ", " + size + ", " + value + ", " + valueSize + ")",
                () -> x.put(key, size, value, valueSize), () -> model.put(key, size, value, valueSize));
    }

    private void losing() {
        if (next(3) == 0) {
            sameAct("sync()", x::sync, model::sync);
        }
        if (next(2) == 0) {
            int more = next(20) == 0 ? next(120) - 10 : next(2) == 0 ? next(101) : next(30);
            sameAct("lose(" + more + ")", () -> x.lose(more), () -> model.lose(more));
        }
        while (model.closed && next(3) == 0) {
            look();
        }
        if (next(8) != 0) {
            boolean hints = next(3) != 0;
            same("open(" + hints + ")", () -> x.open(hints), () -> model.open(hints));
        }
    }

    private void look() {
        int k = next(30) == 0 ? next(9) - 1 : next(Math.max(1, model.files.size()));
        switch (next(8)) {
            case 0 -> same("keys()", x::keys, model::keys);
            case 1 -> same("files()", x::files, () -> model.files.size());
            case 2 -> {
                int what = next(30) == 0 ? next(8) - 1 : next(5);
                same("file(" + k + ", " + what + ")", () -> x.file(k, what), () -> model.file(k, what));
            }
            case 3 -> {
                int n = next(30) == 0 ? next(70) - 1 : next(Math.max(1, model.directory.size()));
                int what = next(30) == 0 ? next(7) - 1 : next(4);
                same("key(" + n + ", " + what + ")", () -> x.key(n, what), () -> model.key(n, what));
            }
            case 4 -> {
                boolean hint = next(3) == 0;
                int i = next(104) - 1;
                same("octet(" + k + ", " + i + ", " + hint + ")",
                        () -> x.octet(k, i, hint), () -> model.octet(k, i, hint));
            }
            default -> {
                String known = knownKey();
                int size = known.isEmpty() ? keySize() : known.length();
                long key = known.isEmpty() ? keyNumber() : Model.numberOf(known);
                same("get(" + key + ", " + size + ")", () -> x.get(key, size), () -> model.get(key, size));
            }
        }
    }

    private void spoil(int k, int i, boolean hint, int bits) {
        sameAct("spoil(" + k + ", " + i + ", " + hint + ", " + bits + ")",
                () -> x.spoil(k, i, hint, bits), () -> model.spoil(k, i, hint, bits));
    }

    private void spoiling() {
        int k = next(30) == 0 ? next(9) - 1 : next(Math.max(1, model.files.size()));
        boolean hint = next(2) == 0;
        if (next(2) == 0 && k >= 0 && k < model.files.size()) {
            forge(k, model.files.get(k), hint);
        } else {
            spoil(k, next(104) - 1, hint, next(512) - 128);
        }
    }

    /** Turns small bits of a hint or of a record and mends the sum, so that what is behind the sum is looked at. */
    private void forge(int k, Model.File f, boolean hint) {
        int from = 0;
        int end = f.hint.length() - 4;
        int sumAt = end;
        if (!hint) {
            if (f.records.isEmpty()) {
                return;
            }
            Model.Known known = f.records.get(next(f.records.size()));
            from = known.place() + 4;
            end = known.place() + known.size();
            sumAt = known.place();
        }
        String row = hint ? f.hint : f.bytes;
        if (end <= from || end > row.length()) {
            return;
        }
        int at = from + next(next(2) == 0 ? end - from : Math.min(4, end - from));
        int bits = 1 << next(4);
        String before = Model.sumOf(row.substring(from, end));
        spoil(k, at, hint, bits);
        String now = hint ? f.hint : f.bytes;
        String after = Model.sumOf(now.substring(from, end));
        for (int i = 0; i < 4; i++) {
            spoil(k, sumAt + i, hint, before.charAt(i) ^ after.charAt(i));
        }
    }
}
