/** Promise 1. */
public final class NewObjectTest {
    public static void main(String[] args) {
        Check c = new Check();
        AppendStore x = new AppendStore();
        c.is("files()", x.files(), 0);
        c.is("keys()", x.keys(), 0);
        c.refuses(Check.NONE, "get(1, 1)", () -> x.get(1, 1));
        c.refuses(Check.NONE, "key(0, 0)", () -> x.key(0, 0));
        c.refuses(Check.ARGUMENT, "file(0, 0)", () -> x.file(0, 0));
        c.refuses(Check.ARGUMENT, "octet(0, 0, false)", () -> x.octet(0, 0, false));
        c.refuses(Check.STATE, "merge(1)", () -> x.merge(1));
        c.is("delete(1, 1)", x.delete(1, 1), false);
        x.sync();
        c.is("files() after sync", x.files(), 0);

        AppendStore y = new AppendStore();
        x.put(1, 1, 2, 1);
        c.is("files() of another", y.files(), 0);
        c.is("keys() of another", y.keys(), 0);
        c.is("open(true) of a new one", y.open(true), 0);
        y.lose(0);
        c.refuses(Check.STATE, "keys() closed", () -> y.keys());
        c.is("files() closed", y.files(), 0);
        c.is("open(false)", y.open(false), 0);
        y.put(7, 1, 0, 0);
        c.is("the first file's number", y.file(0, 0), 1);
        c.end();
    }
}
