/** An object with its calls counted, for the document promises nothing behind the 512th. */
final class Use {
    static final int CALLS_MOST = 512;

    /** A run of calls that can be told again to another object. */
    interface Story {
        void tell(Use x);
    }

    private final ObjectFile x = new ObjectFile();
    private int calls;

    private ObjectFile call() {
        calls++;
        if (calls > CALLS_MOST) {
            throw new IllegalStateException("a test calls one object more than " + CALLS_MOST + " times");
        }
        return x;
    }

    int left() {
        return CALLS_MOST - calls;
    }

    static Use after(Story story) {
        Use x = new Use();
        story.tell(x);
        return x;
    }

    /** Every byte of the FILE that the story ends with, asked of as many objects as the calls need. */
    static void sameFile(Check c, Story story, byte[] due) {
        Use x = after(story);
        c.due("size", x.size(), due.length);
        for (int k = 0; k <= due.length; k++) {
            if (x.left() == 0) {
                x = after(story);
            }
            c.due("byteAt " + k, x.byteAt(k), k < due.length ? due[k] & 255 : -1);
        }
    }

    // ---- the face

    void clear() {
        call().clear();
    }

    boolean put(int s, int n, long eight) {
        return call().put(s, n, eight);
    }

    boolean bss(int size) {
        return call().bss(size);
    }

    boolean align(int s, int power) {
        return call().align(s, power);
    }

    boolean start(int at) {
        return call().start(at);
    }

    boolean letter(int c) {
        return call().letter(c);
    }

    int symbol(int where, int value, int size, int bind, int type) {
        return call().symbol(where, value, size, bind, type);
    }

    int relocation(int s, int at, int kind, int symbol, int addend) {
        return call().relocation(s, at, kind, symbol, addend);
    }

    int write() {
        return call().write();
    }

    int size() {
        return call().size();
    }

    int byteAt(int k) {
        return call().byteAt(k);
    }

    boolean feed(int n, long eight) {
        return call().feed(n, eight);
    }

    boolean cut(int n) {
        return call().cut(n);
    }

    int spoil(int k, int b) {
        return call().spoil(k, b);
    }

    int read() {
        return call().read();
    }

    int place() {
        return call().place();
    }

    void keep() {
        call().keep();
    }

    int section(int s, int what) {
        return call().section(s, what);
    }

    int at(int s, int k) {
        return call().at(s, k);
    }

    int count(int what) {
        return call().count(what);
    }

    int startAt(int k) {
        return call().startAt(k);
    }

    int symbolAt(int k, int what) {
        return call().symbolAt(k, what);
    }

    int relocationAt(int k, int what) {
        return call().relocationAt(k, what);
    }

    // ---- several calls at once

    Use letters(String name) {
        for (int k = 0; k < name.length(); k++) {
            letter(name.charAt(k));
        }
        return this;
    }

    int symbol(String name, int where, int value, int size, int bind) {
        return letters(name).symbol(where, value, size, bind, 0);
    }

    /** n bytes 0 more for section s. */
    Use zeros(int s, int n) {
        for (int k = 0; k < n; k += 8) {
            put(s, Math.min(8, n - k), 0);
        }
        return this;
    }

    Use load(byte[] all) {
        cut(0);
        for (int k = 0; k < all.length; k += 8) {
            feed(Math.min(8, all.length - k), Sample.eight(all, k));
        }
        return this;
    }

    /** The FILE, which is the first row, becomes the second one, as long. */
    Use reshape(byte[] now, byte[] wanted) {
        for (int k = 0; k < wanted.length; k++) {
            if (now[k] != wanted[k]) {
                spoil(k, wanted[k]);
            }
        }
        return this;
    }

    int u2(int at) {
        return byteAt(at) | byteAt(at + 1) << 8;
    }

    long u4(int at) {
        return u2(at) | (long) u2(at + 2) << 16;
    }

    /** The number of the FILE's entry e. */
    long entry(int e, int number) {
        return u4((int) u4(32) + 40 * e + 4 * number);
    }
}
