/** The example of README.md. */
public final class ReadmeTest {
    public static void main(String[] args) {
        Check c = new Check();
        AppendStore store = new AppendStore();
        store.put(0x6162, 2, 5, 1);
        long five = store.get(0x6162, 2);
        c.is("get(0x6162, 2)", five, 5);
        store.sync();
        store.lose(0);
        int keys = store.open(true);
        c.is("open(true)", keys, 1);
        boolean done = store.merge(20);
        c.is("merge(20)", done, true);
        c.end();
    }
}
