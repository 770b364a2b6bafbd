import java.util.ArrayList;
import java.util.List;
import java.util.function.ToIntFunction;

/**
 * The program and the model, called alike; every answer of the one is held against the other's. What is asked of all
 * that the calls left behind goes to other objects that were told the same, so that none is called too often.
 */
final class Pair {
    /** Calls that are left to ask, when an object has been told all. */
    private static final int ROOM_TO_ASK = 24;

    private final Check check;
    private final List<Use.Story> told;
    private final Use x;
    final Model m;
    private Use asked;

    Pair(Check check) {
        this(check, new ArrayList<>(), new Model());
    }

    private Pair(Check check, List<Use.Story> told, Model m) {
        this.check = check;
        this.told = told;
        this.m = m;
        x = again();
    }

    Pair copy() {
        return new Pair(check, new ArrayList<>(told), m.copy());
    }

    /** How many calls may still be told. */
    int left() {
        return Math.min(x.left(), Use.CALLS_MOST - told.size()) - ROOM_TO_ASK;
    }

    private Use again() {
        return Use.after(y -> told.forEach(story -> story.tell(y)));
    }

    private void tell(Use.Story call) {
        told.add(call);
        asked = null;
    }

    private static long bit(boolean b) {
        return b ? 1 : 0;
    }

    // ---- calls that change something

    void clear() {
        tell(Use::clear);
        x.clear();
        m.clear();
    }

    void put(int s, int n, long eight) {
        tell(y -> y.put(s, n, eight));
        check.due("put " + s + " " + n, bit(x.put(s, n, eight)), bit(m.put(s, n, eight)));
    }

    void bss(int size) {
        tell(y -> y.bss(size));
        check.due("bss " + size, bit(x.bss(size)), bit(m.bss(size)));
    }

    void align(int s, int power) {
        tell(y -> y.align(s, power));
        check.due("align " + s + " " + power, bit(x.align(s, power)), bit(m.align(s, power)));
    }

    void start(int at) {
        tell(y -> y.start(at));
        check.due("start " + at, bit(x.start(at)), bit(m.start(at)));
    }

    void letter(int c) {
        tell(y -> y.letter(c));
        check.due("letter " + c, bit(x.letter(c)), bit(m.letter(c)));
    }

    void name(String name) {
        for (int k = 0; k < name.length(); k++) {
            letter(name.charAt(k));
        }
    }

    void symbol(int where, int value, int size, int bind, int type) {
        tell(y -> y.symbol(where, value, size, bind, type));
        String call = "symbol " + where + " " + value + " " + size + " " + bind + " " + type;
        check.due(call, x.symbol(where, value, size, bind, type), m.symbol(where, value, size, bind, type));
    }

    void relocation(int s, int at, int kind, int symbol, int addend) {
        tell(y -> y.relocation(s, at, kind, symbol, addend));
        String call = "relocation " + s + " " + at + " " + kind + " " + symbol + " " + addend;
        check.due(call, x.relocation(s, at, kind, symbol, addend), m.relocation(s, at, kind, symbol, addend));
    }

    int write() {
        tell(Use::write);
        int n = x.write();
        check.due("write", n, m.write());
        return n;
    }

    void feed(int n, long eight) {
        tell(y -> y.feed(n, eight));
        check.due("feed " + n, bit(x.feed(n, eight)), bit(m.feed(n, eight)));
    }

    void cut(int n) {
        tell(y -> y.cut(n));
        check.due("cut " + n, bit(x.cut(n)), bit(m.cut(n)));
    }

    void spoil(int k, int b) {
        tell(y -> y.spoil(k, b));
        check.due("spoil " + k + " " + b, x.spoil(k, b), m.spoil(k, b));
    }

    void spoil4(int k, long v) {
        for (int i = 0; i < 4; i++) {
            if (m.byteAt(k + i) != (v >> 8 * i & 255)) {
                spoil(k + i, (int) (v >> 8 * i));
            }
        }
    }

    int read() {
        tell(Use::read);
        int fault = x.read();
        check.due("read", fault, m.read());
        ask("place behind fault " + fault, Use::place, m.place);
        return fault;
    }

    void keep() {
        tell(Use::keep);
        x.keep();
        m.keep();
    }

    void load(byte[] all) {
        cut(0);
        for (int k = 0; k < all.length; k += 8) {
            feed(Math.min(8, all.length - k), Sample.eight(all, k));
        }
    }

    // ---- what is asked

    private void ask(String call, ToIntFunction<Use> question, int want) {
        if (asked == null || asked.left() == 0) {
            asked = again();
        }
        check.due(call, question.applyAsInt(asked), want);
    }

    /** All questions with these numbers, to the object that goes on. */
    void askBetween(int a, int b) {
        check.due("size", x.size(), m.file.length);
        check.due("place", x.place(), m.place);
        check.due("byteAt " + a, x.byteAt(a), m.byteAt(a));
        check.due("section " + a + " " + b, x.section(a, b), m.section(a, b));
        check.due("at " + a + " " + b, x.at(a, b), m.at(a, b));
        check.due("count " + a, x.count(a), m.count(a));
        check.due("startAt " + a, x.startAt(a), m.startAt(a));
        check.due("symbolAt " + a + " " + b, x.symbolAt(a, b), m.symbolAt(a, b));
        check.due("relocationAt " + a + " " + b, x.relocationAt(a, b), m.relocationAt(a, b));
    }

    void sameFile() {
        ask("size", Use::size, m.file.length);
        for (int k = -1; k <= m.file.length; k++) {
            int at = k;
            ask("byteAt " + k, y -> y.byteAt(at), m.byteAt(k));
        }
    }

    void sameRead() {
        for (int s = -1; s <= 4; s++) {
            int section = s;
            for (int what = -1; what <= 2; what++) {
                int fact = what;
                ask("section " + s + " " + what, y -> y.section(section, fact), m.section(s, what));
            }
            int n = s < 0 || s > 2 ? 1 : m.read.bytes[s].length;
            for (int k = -1; k <= n; k++) {
                int at = k;
                ask("at " + s + " " + k, y -> y.at(section, at), m.at(s, k));
            }
        }
        for (int what = -1; what <= 4; what++) {
            int fact = what;
            ask("count " + what, y -> y.count(fact), m.count(what));
        }
        for (int k = -1; k <= m.read.starts.size(); k++) {
            int start = k;
            ask("startAt " + k, y -> y.startAt(start), m.startAt(k));
        }
        sameSymbols();
        sameRelocations();
    }

    private void sameSymbols() {
        for (int k = 0; k <= m.read.syms.size(); k++) {
            int symbol = k;
            int long1 = Math.max(0, m.symbolAt(k, 5));
            for (int what = -1; what <= 6 + long1; what++) {
                int fact = what;
                ask("symbolAt " + k + " " + what, y -> y.symbolAt(symbol, fact), m.symbolAt(k, what));
            }
        }
    }

    private void sameRelocations() {
        for (int k = 0; k <= m.read.rels.size(); k++) {
            int relocation = k;
            for (int what = 0; what <= 5; what++) {
                int fact = what;
                ask("relocationAt " + k + " " + what, y -> y.relocationAt(relocation, fact), m.relocationAt(k, what));
            }
        }
    }
}
