/** Promises 19 to 24, sentence by sentence: what the READ object is asked. */
public final class AskingTest {
    private static final Check C = new Check();
    private static final int MOST = Integer.MAX_VALUE;
    private static final int LEAST = Integer.MIN_VALUE;
    private static final int[] FAR = {LEAST, LEAST + 5, LEAST + 6, -65536, -7, -6, -5, -4, -3, -2, -1, 65536, MOST - 6, MOST};

    public static void main(String[] args) {
        sectionBytesAndAlignment();
        sectionNone();
        atAll();
        atOneByte();
        atNone();
        countAll();
        countNone();
        startAtAll();
        startAtNone();
        symbolAtFacts();
        symbolAtCharacters();
        symbolAtNoSuchSymbol();
        symbolAtNoSuchWhat();
        symbolAtValueMayBeMinusOne();
        relocationAtFacts();
        relocationAtNone();
        theReadObjectAlone();
        C.end();
    }

    private static Use read(Use x) {
        C.yes("write", x.write() > 0);
        C.due("read", x.read(), 0);
        return x;
    }

    // ---- promise 19

    private static void sectionBytesAndAlignment() {
        C.sentence("section: Of the READ object: how many bytes section s has (what 0), its alignment (1).");
        Use x = new Use();
        for (int s = 0; s < 3; s++) {
            x.zeros(s, 5 + s);
        }
        x.bss(3000);
        for (int s = 0; s < 4; s++) {
            x.align(s, 6 - s);
        }
        read(x);
        for (int s = 0; s < 4; s++) {
            C.due("section " + s + " 0", x.section(s, 0), s == 3 ? 3000 : 5 + s);
            C.due("section " + s + " 1", x.section(s, 1), 64 >> s);
        }
    }

    private static void sectionNone() {
        C.sentence("section: NONE when there is no such section or what.");
        Use x = new Use().zeros(0, 5);
        x.bss(3000);
        read(x);
        for (int far : FAR) {
            C.due("section " + far, x.section(far, 0), -1);
            C.due("section " + far, x.section(far, 1), -1);
            for (int s = 0; s < 4; s++) {
                C.due("what " + far, x.section(s, far), -1);
            }
        }
        for (int s = 0; s < 4; s++) {
            C.due("what 2", x.section(s, 2), -1);
        }
        C.due("section 4", x.section(4, 0), -1);
        C.due("section 4", x.section(4, 1), -1);
        C.due("section 4, what 2", x.section(4, 2), -1);
    }

    // ---- promise 20

    private static void atAll() {
        C.sentence("at: Byte k of section s of the READ object");
        for (int s = 0; s < 3; s++) {
            Use x = new Use();
            for (int k = 0; k < 256; k++) {
                x.put(s, 1, (long) k << 56);
            }
            read(x);
            for (int k = 0; k < 250; k++) {
                C.due("at " + s + " " + k, x.at(s, k), k);
            }
            C.due("at " + s + " 255", x.at(s, 255), 255);
            for (int other = 0; other < 3; other++) {
                C.due("at " + other + " 128", x.at(other, 128), other == s ? 128 : -1);
            }
        }
    }

    private static void atOneByte() {
        C.sentence("at: Byte k of section s of the READ object (which has one alone)");
        for (int s = 0; s < 3; s++) {
            Use x = new Use();
            x.put(s, 1, 0xAB00000000000000L);
            read(x);
            C.due("at " + s + " 0", x.at(s, 0), 0xAB);
            C.due("at " + s + " 1", x.at(s, 1), -1);
            C.due("section " + s, x.section(s, 0), 1);
        }
    }

    private static void atNone() {
        C.sentence("at: NONE when there is none (also of .bss).");
        Use x = new Use().zeros(0, 3).zeros(1, 4).zeros(2, 5);
        x.bss(100);
        for (int s = 0; s < 4; s++) {
            C.due("at " + s + " 0 before the read", x.at(s, 0), -1);
        }
        read(x);
        for (int s = 0; s < 3; s++) {
            C.due("the last of " + s, x.at(s, 2 + s), 0);
            C.due("behind it", x.at(s, 3 + s), -1);
            C.due("2048", x.at(s, 2048), -1);
            for (int far : FAR) {
                C.due("at " + s + " " + far, x.at(s, far), -1);
            }
        }
        for (int k : new int[] {-1, 0, 1, 99, 100}) {
            C.due("of .bss", x.at(3, k), -1);
            C.due("of 4", x.at(4, k), -1);
            for (int far : FAR) {
                C.due("of " + far, x.at(far, k), -1);
            }
        }
    }

    // ---- promise 21

    private static void countAll() {
        C.sentence("count: Of the READ object: how many STARTS (0), symbols (1), relocations (2), SHORT STARTS (3).");
        Use x = new Use();
        x.put(0, 8, 0x0300020001FFFFFFL);
        x.put(0, 2, 0x0400000000000000L);
        for (int at = 0; at < 10; at += 2) {
            x.start(at);
        }
        x.symbol("a", 4, 0, 0, 0);
        x.symbol("b", 4, 0, 0, 1);
        for (int k = 0; k < 7; k++) {
            x.relocation(0, 0, 51, -1, 0);
        }
        for (int what = 0; what < 4; what++) {
            C.due("count " + what + " before the read", x.count(what), 0);
        }
        read(x);
        int[] due = {5, 2, 7, 3};
        for (int what = 0; what < 4; what++) {
            C.due("count " + what, x.count(what), due[what]);
        }
    }

    private static void countNone() {
        C.sentence("count: NONE for another what.");
        Use x = new Use();
        C.due("count 4", x.count(4), -1);
        read(x);
        C.due("count 4", x.count(4), -1);
        for (int far : FAR) {
            C.due("count " + far, x.count(far), -1);
        }
    }

    // ---- promise 22

    private static void startAtAll() {
        C.sentence("startAt: START k of the READ object");
        Use x = new Use().zeros(0, 400);
        for (int k = 0; k < 100; k++) {
            x.start(4 * k);
        }
        C.due("before the read", x.startAt(0), -1);
        read(x);
        for (int k = 0; k < 100; k++) {
            C.due("startAt " + k, x.startAt(k), 4 * k);
        }
    }

    private static void startAtNone() {
        C.sentence("startAt: NONE when there is none.");
        Use x = new Use().zeros(0, 8);
        C.due("of none", x.startAt(0), -1);
        x.start(2);
        x.start(4);
        read(x);
        C.due("startAt 1", x.startAt(1), 4);
        for (int k : new int[] {2, 3, 1023, 1024, 2048}) {
            C.due("startAt " + k, x.startAt(k), -1);
        }
        for (int far : FAR) {
            C.due("startAt " + far, x.startAt(far), -1);
        }
        x.clear();
        read(x);
        C.due("of the empty one", x.startAt(0), -1);
    }

    // ---- promise 23

    private static Use symbols() {
        Use x = new Use();
        x.bss(40);
        x.letters("weak").symbol(3, 39, 1, 2, 0);
        x.letters("loc").symbol(4, -1, 17, 0, 2);
        x.letters("no").symbol(-1, 0, 0, 1, 0);
        x.letters("com").symbol(5, 32, 4096, 1, 1);
        x.letters("0123456789abcdef").symbol(3, 40, 0, 0, 0);
        return read(x);
    }

    private static void symbolAtFacts() {
        C.sentence("symbolAt: Of symbol k of the READ object: where (0), value (1), size (2), bind (3), type (4), how long its name is (5)");
        Use x = symbols();
        int[][] due = {{4, -1, 17, 0, 2, 3}, {3, 40, 0, 0, 0, 16}, {3, 39, 1, 2, 0, 4}, {-1, 0, 0, 1, 0, 2}, {5, 32, 4096, 1, 1, 3}};
        for (int k = 0; k < due.length; k++) {
            for (int what = 0; what < 6; what++) {
                C.due("symbolAt " + k + " " + what, x.symbolAt(k, what), due[k][what]);
            }
        }
    }

    private static void symbolAtCharacters() {
        C.sentence("symbolAt: character what - 6 of its name (6 and more; NONE when there is none)");
        Use x = symbols();
        String[] names = {"loc", "0123456789abcdef", "weak", "no", "com"};
        for (int k = 0; k < names.length; k++) {
            for (int i = 0; i < 18; i++) {
                C.due("symbolAt " + k + " " + (6 + i), x.symbolAt(k, 6 + i), i < names[k].length() ? names[k].charAt(i) : -1);
            }
        }
    }

    private static void symbolAtNoSuchSymbol() {
        C.sentence("symbolAt: NONE when there is no such symbol");
        Use x = symbols();
        for (int what : new int[] {0, 1, 2, 3, 4, 5, 6, 7}) {
            C.due("symbol 5", x.symbolAt(5, what), -1);
            C.due("symbol 99", x.symbolAt(99, what), -1);
            C.due("symbol 100", x.symbolAt(100, what), -1);
            for (int far : FAR) {
                C.due("symbol " + far, x.symbolAt(far, what), -1);
            }
        }
    }

    private static void symbolAtNoSuchWhat() {
        C.sentence("symbolAt: NONE when there is no such what");
        Use x = symbols();
        for (int k = 0; k < 5; k++) {
            for (int far : FAR) {
                C.due("symbolAt " + k + " " + far, x.symbolAt(k, far), -1);
            }
            C.due("symbolAt " + k + " 22", x.symbolAt(k, 22), -1);
            C.due("symbolAt " + k + " 100", x.symbolAt(k, 100), -1);
        }
    }

    private static void symbolAtValueMayBeMinusOne() {
        C.sentence("symbolAt: (A value may be -1, too.)");
        Use x = new Use();
        C.due("symbol", x.symbol("a", 4, -1, 5, 0), 0);
        C.due("symbol", x.symbol("b", -1, 0, 0, 1), 1);
        read(x);
        C.due("value", x.symbolAt(0, 1), -1);
        C.due("size", x.symbolAt(0, 2), 5);
        C.due("where", x.symbolAt(1, 0), -1);
        C.due("bind", x.symbolAt(1, 3), 1);
    }

    // ---- promise 24

    private static Use relocations() {
        Use x = new Use().zeros(0, 70).zeros(1, 8).zeros(2, 8);
        x.symbol("g", 4, 0, 0, 1);
        x.symbol("l", 4, 0, 0, 0);
        x.relocation(2, 7, 33, 0, -1);
        x.relocation(0, 62, 19, 1, LEAST);
        x.relocation(1, 4, 35, 1, 1);
        x.relocation(0, 8, 43, -1, 62);
        x.relocation(2, 0, 39, 1, 4);
        x.relocation(0, 70, 51, -1, MOST);
        return read(x);
    }

    private static void relocationAtFacts() {
        C.sentence("relocationAt: Of relocation k of the READ object: section (0), place (1), kind (2), symbol (3), addend (4).");
        Use x = relocations();
        int[][] due = {{0, 62, 19, 0, LEAST}, {0, 8, 43, -1, 62}, {0, 70, 51, -1, MOST}, {1, 4, 35, 0, 1}, {2, 7, 33, 1, -1}, {2, 0, 39, 0, 4}};
        C.due("count 2", x.count(2), due.length);
        for (int k = 0; k < due.length; k++) {
            for (int what = 0; what < 5; what++) {
                C.due("relocationAt " + k + " " + what, x.relocationAt(k, what), due[k][what]);
            }
        }
    }

    private static void relocationAtNone() {
        C.sentence("relocationAt: NONE when there is no such relocation or what.");
        Use x = relocations();
        for (int k = 0; k < 6; k++) {
            C.due("what 5", x.relocationAt(k, 5), -1);
            C.due("what 6", x.relocationAt(k, 6), -1);
            for (int far : FAR) {
                C.due("what " + far, x.relocationAt(k, far), -1);
            }
        }
        for (int what = 0; what < 5; what++) {
            for (int k : new int[] {6, 7, 299, 300, 301}) {
                C.due("relocation " + k, x.relocationAt(k, what), -1);
            }
            for (int far : FAR) {
                C.due("relocation " + far, x.relocationAt(far, what), -1);
            }
        }
        C.due("of none", new Use().relocationAt(0, 0), -1);
    }

    private static void theReadObjectAlone() {
        C.sentence("section, at, count, startAt, symbolAt, relocationAt: Of the READ object");
        Use x = Use.after(Sample::make);
        x.write();
        C.due("section 0 0", x.section(0, 0), 0);
        C.due("section 0 1", x.section(0, 1), 1);
        C.due("at 0 0", x.at(0, 0), -1);
        C.due("count 1", x.count(1), 0);
        C.due("startAt 0", x.startAt(0), -1);
        C.due("symbolAt 0 5", x.symbolAt(0, 5), -1);
        C.due("relocationAt 0 2", x.relocationAt(0, 2), -1);
    }
}
