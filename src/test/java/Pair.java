import java.util.Random;

/** The program and the model, called alike; every answer of the one is held against the other's. */
final class Pair {
    final ObjectFile x = new ObjectFile();
    final Model m = new Model();
    final Check check;
    final Random random;

    Pair(Check check, Random random) {
        this.check = check;
        this.random = random;
    }

    private static long bit(boolean b) {
        return b ? 1 : 0;
    }

    void put(int s, int n, long eight) {
        check.due("put " + s + " " + n, bit(x.put(s, n, eight)), bit(m.put(s, n, eight)));
    }

    void bss(int size) {
        check.due("bss " + size, bit(x.bss(size)), bit(m.bss(size)));
    }

    void align(int s, int power) {
        check.due("align " + s + " " + power, bit(x.align(s, power)), bit(m.align(s, power)));
    }

    void start(int at) {
        check.due("start " + at, bit(x.start(at)), bit(m.start(at)));
    }

    void letter(int c) {
        check.due("letter " + c, bit(x.letter(c)), bit(m.letter(c)));
    }

    void name(String name) {
        for (int k = 0; k < name.length(); k++) {
            letter(name.charAt(k));
        }
    }

    void symbol(int where, int value, int size, int bind, int type) {
        String call = "symbol " + where + " " + value + " " + size + " " + bind + " " + type;
        check.due(call, x.symbol(where, value, size, bind, type), m.symbol(where, value, size, bind, type));
    }

    void relocation(int s, int at, int kind, int symbol, int addend) {
        String call = "relocation " + s + " " + at + " " + kind + " " + symbol + " " + addend;
        check.due(call, x.relocation(s, at, kind, symbol, addend), m.relocation(s, at, kind, symbol, addend));
    }

    int write() {
        int n = x.write();
        check.due("write", n, m.write());
        return n;
    }

    void sameFile() {
        check.due("size", x.size(), m.file.length);
        for (int k = -1; k <= m.file.length; k++) {
            check.due("byteAt " + k, x.byteAt(k), m.byteAt(k));
        }
    }

    void feed(int n, long eight) {
        check.due("feed " + n, bit(x.feed(n, eight)), bit(m.feed(n, eight)));
    }

    void cut(int n) {
        check.due("cut " + n, bit(x.cut(n)), bit(m.cut(n)));
    }

    int spoil(int k, int b) {
        int was = x.spoil(k, b);
        check.due("spoil " + k + " " + b, was, m.spoil(k, b));
        return was;
    }

    void spoil4(int k, long v) {
        for (int i = 0; i < 4; i++) {
            spoil(k + i, (int) (v >> 8 * i));
        }
    }

    int read() {
        int fault = x.read();
        check.due("read", fault, m.read());
        check.due("place behind fault " + fault, x.place(), m.place);
        return fault;
    }

    void keep() {
        x.keep();
        m.keep();
    }

    void clear() {
        x.clear();
        m.clear();
    }

    void sameRead() {
        for (int s = -1; s <= 4; s++) {
            for (int what = -1; what <= 2; what++) {
                check.due("section " + s + " " + what, x.section(s, what), m.section(s, what));
            }
            int n = s < 0 || s > 2 ? 3 : m.read.bytes[s].length;
            for (int k = -1; k <= n; k++) {
                check.due("at " + s + " " + k, x.at(s, k), m.at(s, k));
            }
        }
        for (int what = -1; what <= 4; what++) {
            check.due("count " + what, x.count(what), m.count(what));
        }
        for (int k = -1; k <= m.read.starts.size(); k++) {
            check.due("startAt " + k, x.startAt(k), m.startAt(k));
        }
        for (int k = -1; k <= m.read.syms.size(); k++) {
            for (int what = -1; what <= 23; what++) {
                check.due("symbolAt " + k + " " + what, x.symbolAt(k, what), m.symbolAt(k, what));
            }
        }
        for (int k = -1; k <= m.read.rels.size(); k++) {
            for (int what = -1; what <= 5; what++) {
                check.due("relocationAt " + k + " " + what, x.relocationAt(k, what), m.relocationAt(k, what));
            }
        }
    }

    void setFile(byte[] all) {
        cut(0);
        for (int k = 0; k < all.length; k += 8) {
            feed(Math.min(8, all.length - k), Sample.eight(all, k));
        }
    }
}
