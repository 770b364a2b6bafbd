/** Promises 1 to 9, sentence by sentence: the MADE object and the draft. */
public final class MakingTest {
    private static final Check C = new Check();
    private static final int MOST = Integer.MAX_VALUE;
    private static final int LEAST = Integer.MIN_VALUE;

    public static void main(String[] args) {
        newObjects();
        newFile();
        newDraft();
        newReading();
        clearMade();
        clearDraft();
        clearNoMore();
        putHighestFirst();
        putSections();
        putNumbers();
        putTooMany();
        bssSize();
        bssRefused();
        alignPowers();
        alignRefused();
        startOneMore();
        startNotEven();
        startNotInReach();
        startNotAbove();
        startNotYetInText();
        letterOneMore();
        letterNotACharacter();
        letterTooMany();
        symbolNumber();
        symbolDraftIsEmptyThen();
        symbolWhenThereAre100();
        symbolWithoutDraft();
        symbolWhere();
        symbolBindOrType();
        symbolNameTaken();
        symbolValueAndSize();
        symbolInSectionZeroOrMore();
        relocationNumber();
        relocationWhenThereAre300();
        relocationSection();
        relocationKind();
        relocationSymbol();
        relocationAddend();
        relocationBelowZero();
        relocationNotYetInSection();
        C.end();
    }

    private static void writtenAndRead(Use x) {
        C.yes("write", x.write() > 0);
        C.due("read", x.read(), 0);
    }

    private static void readIsEmpty(Use x) {
        for (int s = 0; s < 4; s++) {
            C.due("section " + s + " 0", x.section(s, 0), 0);
            C.due("section " + s + " 1", x.section(s, 1), 1);
            C.due("at " + s + " 0", x.at(s, 0), -1);
        }
        for (int what = 0; what < 4; what++) {
            C.due("count " + what, x.count(what), 0);
        }
        C.due("startAt 0", x.startAt(0), -1);
        for (int what = 0; what < 8; what++) {
            C.due("symbolAt 0 " + what, x.symbolAt(0, what), -1);
            C.due("relocationAt 0 " + what, x.relocationAt(0, what), -1);
        }
    }

    // ---- promise 1

    private static void newObjects() {
        C.sentence("ObjectFile(): Both objects are empty");
        Use x = new Use();
        readIsEmpty(x);
        C.due("write of the MADE one", x.write(), 444);
        C.due("read", x.read(), 0);
        readIsEmpty(x);
        Use y = new Use();
        y.keep();
        C.due("write of the READ one", y.write(), 444);
    }

    private static void newFile() {
        C.sentence("ObjectFile(): no FILE");
        Use x = new Use();
        C.due("size", x.size(), 0);
        C.due("byteAt 0", x.byteAt(0), -1);
        C.due("spoil 0", x.spoil(0, 1), -1);
        C.no("cut 1", x.cut(1));
        C.yes("cut 0", x.cut(0));
        C.due("read", x.read(), 1);
        C.due("place", x.place(), 0);
    }

    private static void newDraft() {
        C.sentence("ObjectFile(): no draft");
        Use x = new Use();
        C.due("symbol", x.symbol(4, 0, 0, 0, 0), -1);
        for (int k = 0; k < 16; k++) {
            C.yes("letter", x.letter(65 + k));
        }
        C.no("the 17th letter", x.letter(65));
    }

    private static void newReading() {
        C.sentence("ObjectFile(): nothing was read");
        C.due("place", new Use().place(), -1);
        Use x = new Use();
        x.write();
        C.due("place behind write", x.place(), -1);
    }

    // ---- promise 2

    private static Use full() {
        Use x = new Use().zeros(0, 4).zeros(1, 5).zeros(2, 6);
        x.bss(7);
        for (int s = 0; s < 4; s++) {
            x.align(s, 6);
        }
        x.start(2);
        x.symbol("a", 0, 0, 0, 1);
        x.symbol("b", 0, 0, 0, 0);
        x.relocation(0, 0, 1, 0, 0);
        x.relocation(1, 0, 1, 0, 0);
        x.relocation(2, 0, 1, 0, 0);
        return x;
    }

    private static void clearMade() {
        C.sentence("clear(): The MADE object is empty");
        Use x = full();
        x.clear();
        C.due("write", x.write(), 444);
        C.due("read", x.read(), 0);
        readIsEmpty(x);
        C.yes("a START again from 0 on", x.start(0));
        C.due("a relocation with a symbol that was", x.relocation(0, 0, 1, 0, 0), -1);
        C.due("the name again", x.symbol("a", 4, 0, 0, 1), 0);
        C.due("a relocation again from 0 on", x.relocation(0, 0, 51, -1, 0), 0);
        C.yes("put again up to 2048", x.zeros(0, 2040).put(0, 8, 0));
        Use y = new Use();
        y.clear();
        C.due("write of what was empty", y.write(), 444);
    }

    private static void clearDraft() {
        C.sentence("clear(): so is the draft");
        Use x = new Use().letters("0123456789abcdef");
        x.clear();
        C.due("symbol", x.symbol(4, 0, 0, 0, 0), -1);
        x.letters("y");
        x.clear();
        C.due("symbol", x.symbol("z", 4, 0, 0, 0), 0);
        writtenAndRead(x);
        C.due("how long", x.symbolAt(0, 5), 1);
        C.due("its name", x.symbolAt(0, 6), 'z');
    }

    private static void clearNoMore() {
        C.sentence("clear(): The MADE object is empty; so is the draft. (And nothing else: the READ one, the FILE and the place stay.)");
        Use x = full();
        int n = x.write();
        x.read();
        x.spoil(4, 0);
        x.read();
        x.clear();
        C.due("size", x.size(), n);
        C.due("place", x.place(), 4);
        C.due("section 2 0", x.section(2, 0), 6);
        C.due("section 3 0", x.section(3, 0), 7);
        C.due("section 3 1", x.section(3, 1), 64);
        C.due("count 0", x.count(0), 1);
        C.due("count 1", x.count(1), 2);
        C.due("count 2", x.count(2), 3);
        x.keep();
        C.due("write of the READ one", x.write(), n);
    }

    // ---- promise 3

    private static void putHighestFirst() {
        C.sentence("put: The n highest bytes of eight (the highest first) come behind section s: true.");
        for (int s = 0; s < 3; s++) {
            Use x = new Use();
            for (int n = 1; n <= 8; n++) {
                C.yes("put of " + n, x.put(s, n, 0xF1828384_05060708L));
            }
            writtenAndRead(x);
            int[] eight = {0xF1, 0x82, 0x83, 0x84, 5, 6, 7, 8};
            int k = 0;
            for (int n = 1; n <= 8; n++) {
                for (int i = 0; i < n; i++) {
                    C.due("at " + s + " " + k, x.at(s, k), eight[i]);
                    k++;
                }
            }
            C.due("section " + s, x.section(s, 0), 36);
            C.due("behind", x.at(s, 36), -1);
        }
    }

    private static void putSections() {
        C.sentence("put: False, refused, when s isn't 0 .. 2");
        Use x = new Use();
        for (int s : new int[] {LEAST, -2, -1, 3, 4, 256, MOST}) {
            C.no("put in " + s, x.put(s, 1, -1L));
        }
        C.due("write", x.write(), 444);
        C.due("read", x.read(), 0);
        readIsEmpty(x);
    }

    private static void putNumbers() {
        C.sentence("put: False, refused, when n not 1 .. 8");
        for (int s = 0; s < 3; s++) {
            Use x = new Use();
            for (int n : new int[] {LEAST, -8, -1, 0, 9, 16, 2048, MOST}) {
                C.no("put of " + n, x.put(s, n, -1L));
            }
            C.due("write", x.write(), 444);
            x.put(s, 3, 0);
            C.no("put of -1 behind 3", x.put(s, -1, -1L));
            C.no("put of 9 behind 3", x.put(s, 9, -1L));
            C.no("put of the most behind 3", x.put(s, MOST, -1L));
            writtenAndRead(x);
            C.due("section", x.section(s, 0), 3);
        }
    }

    private static void putTooMany() {
        C.sentence("put: False, refused, when it would have more than 2048");
        for (int s = 0; s < 3; s++) {
            Use x = new Use().zeros(s, 2040);
            for (int had = 2040; had < 2048; had++) {
                for (int n = 2049 - had; n <= 8; n++) {
                    C.no("put of " + n + " behind " + had, x.put(s, n, -1L));
                }
                C.yes("put of 1 behind " + had, x.put(s, 1, (long) had << 56));
            }
            C.no("put of 8 behind 2048", x.put(s, 8, -1L));
            C.no("put of 1 behind 2048", x.put(s, 1, -1L));
            C.yes("put elsewhere", x.put((s + 1) % 3, 8, -1L));
            writtenAndRead(x);
            C.due("section", x.section(s, 0), 2048);
            C.due("the last byte", x.at(s, 2047), 2047 & 255);
            Use y = new Use().zeros(s, 2040);
            C.yes("put of 8 behind 2040", y.put(s, 8, -1L));
            C.no("put of 1 behind 2048", y.put(s, 1, -1L));
        }
    }

    // ---- promise 4

    private static void bssSize() {
        C.sentence("bss: The size of .bss.");
        Use x = new Use();
        for (int size : new int[] {0, 1, 4095, 4096, 17, 0}) {
            C.yes("bss " + size, x.bss(size));
            writtenAndRead(x);
            C.due("section 3 0", x.section(3, 0), size);
        }
    }

    private static void bssRefused() {
        C.sentence("bss: False, refused, when it isn't 0 .. 4096.");
        Use x = new Use();
        x.bss(33);
        for (int size : new int[] {LEAST, -4096, -1, 4097, 65536, MOST}) {
            C.no("bss " + size, x.bss(size));
        }
        writtenAndRead(x);
        C.due("section 3 0", x.section(3, 0), 33);
    }

    // ---- promise 5

    private static void alignPowers() {
        C.sentence("align: The ALIGNMENT of section s is 2 to the power.");
        Use x = new Use();
        for (int round = 0; round < 7; round++) {
            for (int s = 0; s < 4; s++) {
                C.yes("align", x.align(s, (round + s) % 7));
            }
            writtenAndRead(x);
            for (int s = 0; s < 4; s++) {
                C.due("section " + s + " 1", x.section(s, 1), 1 << (round + s) % 7);
            }
        }
    }

    private static void alignRefused() {
        C.sentence("align: False, refused, when s isn't 0 .. 3, or power not 0 .. 6.");
        Use x = new Use();
        for (int s = 0; s < 4; s++) {
            x.align(s, 3);
            for (int power : new int[] {LEAST, -29, -1, 7, 8, 32, 35, MOST}) {
                C.no("align by " + power, x.align(s, power));
            }
        }
        for (int s : new int[] {LEAST, -2, -1, 4, 5, MOST}) {
            C.no("align of " + s, x.align(s, 0));
            C.no("align of " + s, x.align(s, 6));
        }
        writtenAndRead(x);
        for (int s = 0; s < 4; s++) {
            C.due("section " + s + " 1", x.section(s, 1), 8);
        }
    }

    // ---- promise 6

    private static void startOneMore() {
        C.sentence("start: One more START.");
        Use x = new Use().zeros(0, 2048);
        int[] starts = {0, 2, 6, 256, 2044, 2046};
        for (int at : starts) {
            C.yes("start " + at, x.start(at));
        }
        writtenAndRead(x);
        C.due("count 0", x.count(0), starts.length);
        for (int k = 0; k < starts.length; k++) {
            C.due("startAt " + k, x.startAt(k), starts[k]);
        }
    }

    private static void startNotEven() {
        C.sentence("start: False, refused, when it isn't even");
        Use x = new Use().zeros(0, 8);
        for (int at : new int[] {LEAST + 1, -1, 1, 3, 7, 2045, 2047, MOST}) {
            C.no("start " + at, x.start(at));
        }
        C.yes("start 2", x.start(2));
        C.no("start 5", x.start(5));
        writtenAndRead(x);
        C.due("count 0", x.count(0), 1);
    }

    private static void startNotInReach() {
        C.sentence("start: False, refused, when it isn't 0 .. 2046");
        Use x = new Use().zeros(0, 2048);
        for (int at : new int[] {LEAST, -2048, -2, 2048, 2050, 65536, MOST - 1}) {
            C.no("start " + at, x.start(at));
        }
        writtenAndRead(x);
        C.due("count 0", x.count(0), 0);
        C.yes("start 0", x.start(0));
        C.yes("start 2046", x.start(2046));
        C.no("start 2048", x.start(2048));
        writtenAndRead(x);
        C.due("count 0", x.count(0), 2);
    }

    private static void startNotAbove() {
        C.sentence("start: False, refused, when it isn't above the latest one");
        Use x = new Use().zeros(0, 16);
        x.start(4);
        C.no("the same", x.start(4));
        C.no("below", x.start(2));
        C.no("0", x.start(0));
        C.yes("above", x.start(6));
        C.no("the one before", x.start(4));
        C.no("the latest", x.start(6));
        C.no("below 0", x.start(-2));
        C.yes("above", x.start(14));
        C.no("between", x.start(8));
        writtenAndRead(x);
        C.due("count 0", x.count(0), 3);
        C.due("startAt 2", x.startAt(2), 14);
        x.clear();
        x.zeros(0, 16);
        C.yes("the latest is gone", x.start(0));
        x.keep();
        C.no("the latest is the READ one's", x.start(14));
    }

    private static void startNotYetInText() {
        C.sentence("start: (Whether .text has it is asked by write().)");
        Use x = new Use();
        C.yes("start 6 without .text", x.start(6));
        C.due("write", x.write(), -1);
        x.zeros(0, 6);
        C.due("write with 6 bytes", x.write(), -1);
        x.put(0, 1, 0);
        writtenAndRead(x);
        C.due("startAt 0", x.startAt(0), 6);
    }

    // ---- promise 7

    private static void letterOneMore() {
        C.sentence("letter: One more character of the draft.");
        Use x = new Use();
        String name = "!\"#$%&'()*+,-./~";
        for (int k = 0; k < 16; k++) {
            C.yes("letter", x.letter(name.charAt(k)));
        }
        C.due("symbol", x.symbol(4, 0, 0, 0, 0), 0);
        writtenAndRead(x);
        C.due("how long", x.symbolAt(0, 5), 16);
        for (int k = 0; k < 16; k++) {
            C.due("character " + k, x.symbolAt(0, 6 + k), name.charAt(k));
        }
    }

    private static void letterNotACharacter() {
        C.sentence("letter: False, refused, when it isn't 33 .. 126");
        Use x = new Use();
        int[] wrong = {LEAST, -65, -1, 0, 10, 31, 32, 127, 128, 255, 256, 256 + 65, 65536 + 65, MOST};
        for (int c : wrong) {
            C.no("letter " + c, x.letter(c));
        }
        C.due("the draft is empty", x.symbol(4, 0, 0, 0, 0), -1);
        C.yes("letter 33", x.letter(33));
        for (int c : wrong) {
            C.no("letter " + c + " behind", x.letter(c));
        }
        C.yes("letter 126", x.letter(126));
        x.symbol(4, 0, 0, 0, 0);
        writtenAndRead(x);
        C.due("how long", x.symbolAt(0, 5), 2);
        C.due("first", x.symbolAt(0, 6), 33);
        C.due("second", x.symbolAt(0, 7), 126);
    }

    private static void letterTooMany() {
        C.sentence("letter: False, refused, when there are 16");
        Use x = new Use().letters("0123456789abcde");
        C.yes("the 16th", x.letter('f'));
        C.no("the 17th", x.letter('g'));
        C.no("again", x.letter('h'));
        C.due("symbol", x.symbol(4, 0, 0, 0, 0), 0);
        C.yes("the draft is empty then", x.letter('i'));
        C.due("symbol", x.symbol(4, 0, 0, 0, 0), 1);
        writtenAndRead(x);
        C.due("how long", x.symbolAt(0, 5), 16);
        C.due("the last", x.symbolAt(0, 21), 'f');
        C.due("how long the next is", x.symbolAt(1, 5), 1);
        C.due("the next", x.symbolAt(1, 6), 'i');
    }

    // ---- promise 8

    private static void symbolNumber() {
        C.sentence("symbol: One more symbol, whose name is the draft: its number.");
        Use x = new Use();
        x.bss(100);
        C.due("symbol a", x.letters("a").symbol(3, 7, 8, 0, 2), 0);
        C.due("symbol bc", x.letters("bc").symbol(4, -7, 9, 0, 1), 1);
        C.due("symbol d", x.letters("d").symbol(-1, 0, 0, 2, 0), 2);
        C.due("symbol e", x.letters("e").symbol(5, 32, 10, 1, 1), 3);
        writtenAndRead(x);
        int[][] due = {{3, 7, 8, 0, 2, 1, 'a', -1}, {4, -7, 9, 0, 1, 2, 'b', 'c', -1}, {-1, 0, 0, 2, 0, 1, 'd', -1},
            {5, 32, 10, 1, 1, 1, 'e', -1}};
        C.due("count 1", x.count(1), due.length);
        for (int k = 0; k < due.length; k++) {
            for (int what = 0; what < due[k].length; what++) {
                C.due("symbolAt " + k + " " + what, x.symbolAt(k, what), due[k][what]);
            }
        }
    }

    private static void symbolDraftIsEmptyThen() {
        C.sentence("symbol: the draft (which is empty then, also when it is refused)");
        int[][] refused = {{-2, 0, 0, 1, 0}, {6, 0, 0, 1, 0}, {4, 0, 0, -1, 0}, {4, 0, 0, 3, 0}, {4, 0, 0, 0, -1}, {4, 0, 0, 0, 3},
            {4, 0, -1, 0, 0}, {0, -1, 0, 0, 0}, {-1, 1, 0, 1, 0}, {5, 3, 1, 1, 0}, {5, 1, 0, 1, 0}, {4, 0, 0, 1, 0}};
        Use x = new Use();
        C.due("global tk", x.symbol("tk", 4, 0, 0, 1), 0);
        C.due("the draft is empty", x.symbol(4, 0, 0, 0, 0), -1);
        int number = 1;
        for (int[] r : refused) {
            C.due("refused", x.letters("tk").symbol(r[0], r[1], r[2], r[3], r[4]), -1);
            C.due("the draft is empty", x.symbol(4, 0, 0, 0, 0), -1);
            C.due("refused", x.letters("tk").symbol(r[0], r[1], r[2], r[3], r[4]), -1);
            C.due("a new draft", x.symbol("z", 4, 0, 0, 0), number++);
        }
        writtenAndRead(x);
        for (int k = 0; k < refused.length; k++) {
            C.due("how long", x.symbolAt(k, 5), 1);
        }
    }

    private static void symbolWhenThereAre100() {
        C.sentence("symbol: NONE, refused, when there are 100");
        Use x = new Use();
        for (int k = 0; k < 99; k++) {
            x.symbol("a", 4, 0, 0, 0);
        }
        C.due("the 100th", x.symbol("b", 4, 0, 0, 1), 99);
        C.due("the 101st", x.symbol("c", 4, 0, 0, 0), -1);
        C.due("and no draft", x.symbol(4, 0, 0, 0, 0), -1);
        C.due("a global one", x.symbol("c", 4, 0, 0, 1), -1);
        writtenAndRead(x);
        C.due("count 1", x.count(1), 100);
        C.due("the last one's name", x.symbolAt(99, 6), 'b');
        x.keep();
        C.due("the 101st behind keep", x.symbol("c", 4, 0, 0, 0), -1);
        x.clear();
        C.due("the first behind clear", x.symbol("c", 4, 0, 0, 0), 0);
    }

    private static void symbolWithoutDraft() {
        C.sentence("symbol: NONE, refused, when the draft is empty");
        Use x = new Use();
        for (int where = -1; where <= 5; where++) {
            C.due("where " + where, x.symbol(where, where == 5 ? 1 : 0, where == 5 ? 1 : 0, 1, 0), -1);
        }
        writtenAndRead(x);
        C.due("count 1", x.count(1), 0);
    }

    private static void symbolWhere() {
        C.sentence("symbol: NONE, refused, when where isn't -1 .. 5");
        Use x = new Use();
        for (int where : new int[] {LEAST, -65536, -2, 6, 7, 65521, 65522, MOST}) {
            C.due("where " + where, x.symbol("a", where, 0, 0, 1), -1);
            C.due("where " + where, x.symbol("a", where, 1, 1, 1), -1);
        }
        writtenAndRead(x);
        C.due("count 1", x.count(1), 0);
    }

    private static void symbolBindOrType() {
        C.sentence("symbol: NONE, refused, when bind or type not 0 .. 2");
        Use x = new Use();
        for (int wrong : new int[] {LEAST, -2, -1, 3, 4, 16, MOST}) {
            for (int where : new int[] {-1, 0, 3, 4}) {
                C.due("bind " + wrong, x.letters("a").symbol(where, 0, 0, wrong, 0), -1);
                C.due("type " + wrong, x.letters("a").symbol(where, 0, 0, 1, wrong), -1);
            }
            C.due("bind " + wrong, x.letters("a").symbol(5, 1, 1, wrong, 0), -1);
            C.due("type " + wrong, x.letters("a").symbol(5, 1, 1, 1, wrong), -1);
        }
        writtenAndRead(x);
        C.due("count 1", x.count(1), 0);
    }

    private static void symbolNameTaken() {
        C.sentence("symbol: NONE, refused, when it isn't local and has the name of one that isn't");
        Use x = new Use();
        C.due("local a", x.symbol("a", 4, 0, 0, 0), 0);
        C.due("global a", x.symbol("a", 4, 0, 0, 1), 1);
        C.due("global a", x.symbol("a", 4, 0, 0, 1), -1);
        C.due("weak a", x.symbol("a", 4, 0, 0, 2), -1);
        C.due("nowhere a", x.symbol("a", -1, 0, 0, 1), -1);
        C.due("common a", x.symbol("a", 5, 1, 1, 1), -1);
        C.due("local a", x.symbol("a", 4, 0, 0, 0), 2);
        C.due("weak b", x.symbol("b", 4, 0, 0, 2), 3);
        C.due("global b", x.symbol("b", 4, 0, 0, 1), -1);
        C.due("weak b", x.symbol("b", 4, 0, 0, 2), -1);
        C.due("a refused name is free", x.symbol("c", 4, 0, -1, 1), -1);
        C.due("global c", x.symbol("c", 4, 0, 0, 1), 4);
        C.due("global ab", x.symbol("ab", 4, 0, 0, 1), 5);
        C.due("global ba", x.symbol("ba", 4, 0, 0, 1), 6);
        C.due("global aa", x.symbol("aa", 4, 0, 0, 1), 7);
        writtenAndRead(x);
        C.due("count 1", x.count(1), 8);
        x.keep();
        C.due("taken behind keep", x.symbol("aa", 4, 0, 0, 2), -1);
    }

    private static void symbolValueAndSize() {
        C.sentence("symbol: NONE, refused, when of value and size what SYMBOLS says doesn't hold");
        Use x = new Use();
        int[][] wrong = {{-1, 1, 0, 1}, {-1, -1, 0, 1}, {-1, 0, 1, 1}, {-1, 0, -1, 2}, {-1, 1, 1, 1}, {-1, MOST, 0, 1}, {-1, 0, LEAST, 1},
            {4, 0, -1, 0}, {4, -1, -1, 1}, {4, 0, LEAST, 2},
            {5, 0, 1, 1}, {5, -1, 1, 1}, {5, 3, 1, 1}, {5, 6, 1, 1}, {5, 128, 1, 1}, {5, 65, 1, 1}, {5, LEAST, 1, 1},
            {5, 1, 0, 1}, {5, 1, -1, 1}, {5, 1, 4097, 1}, {5, 64, MOST, 1}, {5, 64, LEAST, 1}};
        for (int[] w : wrong) {
            C.due("symbol " + w[0] + " " + w[1] + " " + w[2], x.symbol("a", w[0], w[1], w[2], w[3]), -1);
        }
        int[][] right = {{-1, 0, 0, 1}, {4, LEAST, 0, 0}, {4, MOST, MOST, 0}, {5, 1, 1, 1}, {5, 64, 4096, 1}, {5, 2, 2, 1}};
        for (int k = 0; k < right.length; k++) {
            int[] r = right[k];
            C.due("symbol " + r[0] + " " + r[1] + " " + r[2], x.symbol("" + k, r[0], r[1], r[2], r[3]), k);
        }
        writtenAndRead(x);
        C.due("count 1", x.count(1), right.length);
    }

    private static void symbolInSectionZeroOrMore() {
        C.sentence("symbol: (in a section: 0 or more alone; the rest is asked by write())");
        for (int s = 0; s < 4; s++) {
            for (int[] far : new int[][] {{1, 0}, {0, 1}, {4096, 4096}, {MOST, 0}, {0, MOST}, {MOST, MOST}}) {
                Use x = new Use();
                C.due("value -1", x.symbol("a", s, -1, 0, 0), -1);
                C.due("size -1", x.symbol("a", s, 0, -1, 0), -1);
                C.due("the least", x.symbol("a", s, LEAST, LEAST, 0), -1);
                C.due("far", x.symbol("a", s, far[0], far[1], 0), 0);
                C.due("write", x.write(), -2);
            }
        }
    }

    // ---- promise 9

    private static void relocationNumber() {
        C.sentence("relocation: One more relocation: its number.");
        Use x = new Use().zeros(0, 16).zeros(1, 16).zeros(2, 16);
        x.symbol("a", 4, 0, 0, 0);
        x.symbol("b", 4, 0, 0, 0);
        int[][] due = {{0, 3, 19, 1, -7}, {0, 4, 43, -1, 12}, {0, 16, 51, -1, 5}, {1, 12, 1, 0, 9}, {2, 15, 33, 1, LEAST}};
        for (int k = 0; k < due.length; k++) {
            int[] r = due[k];
            C.due("relocation", x.relocation(r[0], r[1], r[2], r[3], r[4]), k);
        }
        writtenAndRead(x);
        C.due("count 2", x.count(2), due.length);
        for (int k = 0; k < due.length; k++) {
            for (int what = 0; what < 5; what++) {
                C.due("relocationAt " + k + " " + what, x.relocationAt(k, what), due[k][what]);
            }
        }
    }

    private static void relocationWhenThereAre300() {
        C.sentence("relocation: NONE, refused, when there are 300");
        Use x = new Use().zeros(2, 4);
        x.symbol("a", 4, 0, 0, 0);
        for (int k = 0; k < 299; k++) {
            x.relocation(k % 2 * 2, 0, k % 2 == 0 ? 51 : 1, k % 2 - 1, k);
        }
        C.due("the 300th", x.relocation(2, 0, 1, 0, 77), 299);
        C.due("the 301st", x.relocation(2, 0, 1, 0, 0), -1);
        C.due("elsewhere", x.relocation(0, 0, 51, -1, 0), -1);
        writtenAndRead(x);
        C.due("count 2", x.count(2), 300);
        C.due("the last one", x.relocationAt(299, 4), 77);
        x.keep();
        C.due("the 301st behind keep", x.relocation(0, 0, 51, -1, 0), -1);
        x.clear();
        C.due("the first behind clear", x.relocation(0, 0, 51, -1, 0), 0);
    }

    /** No relocation was taken. */
    private static void noneTaken(Use x) {
        writtenAndRead(x);
        C.due("count 2", x.count(2), 0);
    }

    private static void relocationSection() {
        C.sentence("relocation: NONE, refused, when the section is not as said");
        Use x = new Use();
        x.symbol("a", 4, 0, 0, 0);
        for (int s : new int[] {LEAST, -2, -1, 3, 4, MOST}) {
            C.due("1 in " + s, x.relocation(s, 0, 1, 0, 0), -1);
            C.due("51 in " + s, x.relocation(s, 0, 51, -1, 0), -1);
        }
        for (int s = 1; s <= 2; s++) {
            for (int kind : new int[] {16, 17, 19, 23, 24, 25, 26, 27, 28, 44, 45}) {
                C.due(kind + " in " + s, x.relocation(s, 0, kind, 0, 0), -1);
            }
            C.due("43 in " + s, x.relocation(s, 0, 43, -1, 0), -1);
            C.due("51 in " + s, x.relocation(s, 0, 51, -1, 0), -1);
        }
        noneTaken(x);
    }

    private static void relocationKind() {
        C.sentence("relocation: NONE, refused, when the kind is not as said");
        Use x = new Use();
        x.symbol("a", 4, 0, 0, 0);
        int[] wrong = {LEAST, -51, -1, 0, 2, 15, 18, 20, 21, 22, 29, 30, 31, 32, 36, 40, 41, 42, 46, 47, 48, 49, 50, 52, 53, 255, 256,
            257, 256 + 51, MOST};
        for (int kind : wrong) {
            for (int s = 0; s < 3; s++) {
                C.due("kind " + kind + " with", x.relocation(s, 0, kind, 0, 0), -1);
                C.due("kind " + kind + " without", x.relocation(s, 0, kind, -1, 0), -1);
            }
        }
        noneTaken(x);
    }

    private static void relocationSymbol() {
        C.sentence("relocation: NONE, refused, when the symbol (one that is there, or none) is not as said");
        Use x = new Use();
        for (int symbol : new int[] {LEAST, -2, -1, 0, 1, 99, 100, MOST}) {
            C.due("1 with " + symbol + " of none", x.relocation(0, 0, 1, symbol, 0), -1);
        }
        x.symbol("a", 4, 0, 0, 1);
        x.symbol("b", 4, 0, 0, 0);
        for (int symbol : new int[] {LEAST, -2, -1, 2, 3, 99, 100, MOST}) {
            C.due("1 with " + symbol + " of two", x.relocation(0, 0, 1, symbol, 0), -1);
        }
        for (int symbol : new int[] {LEAST, -2, 0, 1, 2, MOST}) {
            C.due("43 with " + symbol, x.relocation(0, 0, 43, symbol, 0), -1);
            C.due("51 with " + symbol, x.relocation(0, 0, 51, symbol, 0), -1);
        }
        noneTaken(x);
        C.due("1 with 1", x.relocation(0, 0, 1, 1, 0), 0);
        C.due("51 without", x.relocation(0, 0, 51, -1, 0), 1);
    }

    private static void relocationAddend() {
        C.sentence("relocation: NONE, refused, when of kind 43, the addend is not as said");
        Use x = new Use();
        for (int addend : new int[] {LEAST, LEAST + 2, -62, -2, -1, 1, 61, 63, 64, 126, MOST - 1, MOST}) {
            C.due("43 by " + addend, x.relocation(0, 0, 43, -1, addend), -1);
        }
        noneTaken(x);
        C.due("43 by 0", x.relocation(0, 0, 43, -1, 0), 0);
        C.due("43 by 62", x.relocation(0, 0, 43, -1, 62), 1);
        C.due("51 by 63", x.relocation(0, 0, 51, -1, 63), 2);
        C.due("51 by -2", x.relocation(0, 0, 51, -1, -2), 3);
    }

    private static void relocationBelowZero() {
        C.sentence("relocation: NONE, refused, when at is below 0");
        Use x = new Use();
        x.symbol("a", 4, 0, 0, 0);
        for (int at : new int[] {LEAST, -2048, -1}) {
            for (int s = 0; s < 3; s++) {
                C.due("1 at " + at, x.relocation(s, at, 1, 0, 0), -1);
            }
            C.due("51 at " + at, x.relocation(0, at, 51, -1, 0), -1);
            C.due("43 at " + at, x.relocation(0, at, 43, -1, 62), -1);
        }
        noneTaken(x);
        C.due("at 0", x.relocation(0, 0, 51, -1, 0), 0);
    }

    private static void relocationNotYetInSection() {
        C.sentence("relocation: (Whether the section has it is asked by write().)");
        for (int at : new int[] {0, 1, 2048, 65536, MOST - 3, MOST}) {
            for (int s = 0; s < 3; s++) {
                Use x = new Use();
                x.symbol("a", 4, 0, 0, 0);
                C.due("at " + at, x.relocation(s, at, 1, 0, 0), 0);
                C.due("write", x.write(), -3);
            }
        }
    }
}
