/** Each promise of the document by itself: ordinary inputs, the edges that it names, and wrong inputs. */
public final class PromisesTest {
    private static final Check C = new Check();
    private static final int[] FAR = {Integer.MIN_VALUE, -65536, -2, Integer.MAX_VALUE};

    public static void main(String[] args) {
        promise01NewObject();
        promise02Clear();
        promise03Put();
        promise04Bss();
        promise05Align();
        promise06Start();
        promise07Letter();
        promise08SymbolWhere();
        promise08SymbolNames();
        promise09Relocation();
        promise10WriteRefuses();
        promise10WriteTooLong();
        promise10WriteFull();
        promise10WriteLongNames();
        promise11To15File();
        promise16And17Read();
        promise18Keep();
        promise19And20Section();
        promise21And22Starts();
        promise23SymbolAt();
        promise24RelocationAt();
        C.end();
    }

    static boolean name(ObjectFile x, String name) {
        boolean all = true;
        for (int k = 0; k < name.length(); k++) {
            all &= x.letter(name.charAt(k));
        }
        return all;
    }

    static int symbol(ObjectFile x, String name, int where, int value, int size, int bind) {
        name(x, name);
        return x.symbol(where, value, size, bind, 0);
    }

    private static void bytes(ObjectFile x, int s, int n) {
        for (int k = 0; k < n; k += 8) {
            C.yes("put", x.put(s, Math.min(8, n - k), 0));
        }
    }

    private static void isEmptyRead(ObjectFile x) {
        for (int s = 0; s < 4; s++) {
            C.due("section " + s + " 0", x.section(s, 0), 0);
            C.due("section " + s + " 1", x.section(s, 1), 1);
            C.due("at " + s + " 0", x.at(s, 0), -1);
        }
        for (int what = 0; what < 4; what++) {
            C.due("count " + what, x.count(what), 0);
        }
        C.due("startAt 0", x.startAt(0), -1);
        C.due("symbolAt 0 5", x.symbolAt(0, 5), -1);
        C.due("relocationAt 0 1", x.relocationAt(0, 1), -1);
    }

    private static void promise01NewObject() {
        ObjectFile x = new ObjectFile();
        isEmptyRead(x);
        C.due("place of none", x.place(), -1);
        C.due("size of none", x.size(), 0);
        C.due("byteAt of none", x.byteAt(0), -1);
        C.due("symbol without draft", x.symbol(4, 0, 0, 0, 0), -1);
        C.due("write of the empty one", x.write(), 444);
        x.keep();
        C.due("write of the empty one that is kept", x.write(), 444);
    }

    private static void promise02Clear() {
        ObjectFile x = new ObjectFile();
        x.put(0, 4, -1L);
        x.put(1, 4, -1L);
        x.put(2, 4, -1L);
        x.bss(7);
        for (int s = 0; s < 4; s++) {
            x.align(s, 6);
        }
        x.start(2);
        symbol(x, "a", 0, 0, 0, 1);
        x.relocation(0, 0, 1, 0, 0);
        int n = x.write();
        C.yes("more than the empty one", n > 444);
        x.letter('z');
        x.clear();
        C.due("the FILE stays", x.size(), n);
        C.due("the draft is empty", x.symbol(4, 0, 0, 0, 0), -1);
        C.due("write of what is empty", x.write(), 444);
        C.due("read", x.read(), 0);
        isEmptyRead(x);
        C.yes("a start before the latest one that was", x.start(0));
        C.due("the name is free", symbol(x, "a", 4, 0, 0, 1), 0);
        C.due("read behind", x.read(), 0);
        x.clear();
        C.due("the READ object stays", x.section(0, 1), 1);
    }

    private static void promise03Put() {
        ObjectFile x = new ObjectFile();
        C.yes("put 8", x.put(0, 8, 0x0102030405060708L));
        C.yes("put 3 behind", x.put(0, 3, 0xF1F2F3F4F5F6F7F8L));
        C.yes("put 1", x.put(2, 1, 0xABCDEF0000000000L));
        for (int s : new int[] {-1, 3, 4}) {
            C.no("put in " + s, x.put(s, 1, 0));
        }
        for (int n : new int[] {-1, 0, 9}) {
            C.no("put of " + n, x.put(0, n, 0));
        }
        for (int far : FAR) {
            C.no("put far", x.put(far, 1, 0));
            C.no("put far", x.put(0, far, 0));
        }
        x.write();
        C.due("read", x.read(), 0);
        int[] due = {1, 2, 3, 4, 5, 6, 7, 8, 0xF1, 0xF2, 0xF3, -1};
        for (int k = 0; k < due.length; k++) {
            C.due("at 0 " + k, x.at(0, k), due[k]);
        }
        C.due("at 2 0", x.at(2, 0), 0xAB);
        C.due("section 2 0", x.section(2, 0), 1);
        for (int s = 0; s < 3; s++) {
            ObjectFile y = new ObjectFile();
            bytes(y, s, 2043);
            C.no("put of 6 behind 2043", y.put(s, 6, 0));
            C.yes("put of 5 behind 2043", y.put(s, 5, -1L));
            C.no("put of 1 behind 2048", y.put(s, 1, 0));
            y.write();
            y.read();
            C.due("section " + s, y.section(s, 0), 2048);
            C.due("the last byte", y.at(s, 2047), 255);
            C.due("behind it", y.at(s, 2048), -1);
        }
    }

    private static void promise04Bss() {
        ObjectFile x = new ObjectFile();
        C.yes("bss 4096", x.bss(4096));
        C.no("bss 4097", x.bss(4097));
        C.no("bss -1", x.bss(-1));
        for (int far : FAR) {
            C.no("bss far", x.bss(far));
        }
        C.due("the FILE has no bytes of it", x.write(), 444);
        x.read();
        C.due("section 3 0", x.section(3, 0), 4096);
        C.yes("bss 0", x.bss(0));
        x.write();
        x.read();
        C.due("section 3 0", x.section(3, 0), 0);
    }

    private static void promise05Align() {
        ObjectFile x = new ObjectFile();
        for (int power = 0; power <= 6; power++) {
            for (int s = 0; s < 4; s++) {
                C.yes("align", x.align(s, power));
                C.no("align by -1", x.align(s, -1));
                C.no("align by 7", x.align(s, 7));
                C.no("align by 32", x.align(s, 32));
            }
            x.write();
            x.read();
            for (int s = 0; s < 4; s++) {
                C.due("section " + s + " 1", x.section(s, 1), 1 << power);
            }
        }
        C.no("align of -1", x.align(-1, 0));
        C.no("align of 4", x.align(4, 0));
        for (int far : FAR) {
            C.no("align far", x.align(far, 0));
            C.no("align far", x.align(0, far));
        }
    }

    private static void promise06Start() {
        ObjectFile x = new ObjectFile();
        C.no("start -2", x.start(-2));
        C.no("start 2048", x.start(2048));
        C.no("start 1", x.start(1));
        C.yes("start 0", x.start(0));
        C.no("start 0 again", x.start(0));
        C.yes("start 6", x.start(6));
        C.no("start 4 below", x.start(4));
        C.no("start 7", x.start(7));
        C.no("start 2047", x.start(2047));
        C.yes("start 2046", x.start(2046));
        for (int far : FAR) {
            C.no("start far", x.start(far));
        }
        ObjectFile y = new ObjectFile();
        bytes(y, 0, 2048);
        for (int at = 0; at < 2048; at += 2) {
            C.yes("start " + at, y.start(at));
        }
        C.no("one more than 1024", y.start(2046));
        C.due("write", y.write(), 52 + 2048 + 2048 + 16 + 1 + 60 + 3 + 9 * 40);
        C.due("read", y.read(), 0);
        C.due("count 0", y.count(0), 1024);
        C.due("startAt 1023", y.startAt(1023), 2046);
        C.due("count 3", y.count(3), 1024);
    }

    private static void promise07Letter() {
        ObjectFile x = new ObjectFile();
        for (int c : new int[] {Integer.MIN_VALUE, -1, 0, 32, 127, 128, 256 + 65, Integer.MAX_VALUE}) {
            C.no("letter " + c, x.letter(c));
        }
        C.yes("letter 33", x.letter(33));
        C.yes("letter 126", x.letter(126));
        for (int k = 2; k < 16; k++) {
            C.yes("letter", x.letter(64 + k));
        }
        C.no("the 17th letter", x.letter(65));
        C.due("symbol", x.symbol(4, 0, 0, 0, 0), 0);
        C.yes("letter behind", x.letter(65));
        C.due("symbol", x.symbol(4, 0, 0, 0, 0), 1);
        x.write();
        x.read();
        C.due("how long", x.symbolAt(0, 5), 16);
        C.due("first", x.symbolAt(0, 6), 33);
        C.due("second", x.symbolAt(0, 7), 126);
        C.due("last", x.symbolAt(0, 21), 79);
        C.due("how long", x.symbolAt(1, 5), 1);
    }

    private static int numbered;

    private static boolean taken(ObjectFile x, int where, int value, int size, int bind) {
        numbered++;
        return symbol(x, "n" + numbered, where, value, size, bind) >= 0;
    }

    private static void promise08SymbolWhere() {
        ObjectFile x = new ObjectFile();
        int most = Integer.MAX_VALUE;
        C.yes("nowhere, global", taken(x, -1, 0, 0, 1));
        C.yes("nowhere, weak", taken(x, -1, 0, 0, 2));
        C.no("nowhere, local", taken(x, -1, 0, 0, 0));
        C.no("nowhere with a value", taken(x, -1, 1, 0, 1));
        C.no("nowhere with a size", taken(x, -1, 0, 1, 1));
        for (int s = 0; s < 4; s++) {
            for (int bind = 0; bind < 3; bind++) {
                C.yes("in a section", taken(x, s, 0, 0, bind));
            }
            C.yes("far in a section", taken(x, s, most, most, 0));
            C.no("in a section, value -1", taken(x, s, -1, 0, 0));
            C.no("in a section, size -1", taken(x, s, 0, -1, 0));
            C.no("in a section, both low", taken(x, s, Integer.MIN_VALUE, Integer.MIN_VALUE, 0));
        }
        C.yes("absolute", taken(x, 4, Integer.MIN_VALUE, most, 0));
        C.yes("absolute", taken(x, 4, -1, 0, 2));
        C.no("absolute, size -1", taken(x, 4, 0, -1, 0));
        C.yes("common", taken(x, 5, 1, 1, 1));
        C.yes("common", taken(x, 5, 64, 4096, 1));
        for (int value : new int[] {Integer.MIN_VALUE, -1, 0, 3, 63, 65, 128}) {
            C.no("common, value " + value, taken(x, 5, value, 1, 1));
        }
        for (int size : new int[] {Integer.MIN_VALUE, -1, 0, 4097}) {
            C.no("common, size " + size, taken(x, 5, 1, size, 1));
        }
        C.no("common, local", taken(x, 5, 1, 1, 0));
        C.no("common, weak", taken(x, 5, 1, 1, 2));
        for (int where : new int[] {Integer.MIN_VALUE, -2, 6, most}) {
            C.no("where " + where, taken(x, where, 0, 0, 1));
        }
        C.no("bind -1", taken(x, 4, 0, 0, -1));
        C.no("bind 3", taken(x, 4, 0, 0, 3));
        x.letter('t');
        C.due("type -1", x.symbol(4, 0, 0, 0, -1), -1);
        x.letter('t');
        C.due("type 3", x.symbol(4, 0, 0, 0, 3), -1);
        C.due("without a name", x.symbol(4, 0, 0, 0, 2), -1);
        x.letter('t');
        C.due("its number", x.symbol(4, 0, 0, 0, 2), 2 + 16 + 2 + 2);
    }

    private static void promise08SymbolNames() {
        ObjectFile x = new ObjectFile();
        C.due("global a", symbol(x, "a", 4, 0, 0, 1), 0);
        C.due("weak a", symbol(x, "a", 4, 0, 0, 2), -1);
        C.due("global a", symbol(x, "a", -1, 0, 0, 1), -1);
        C.due("local a", symbol(x, "a", 4, 0, 0, 0), 1);
        C.due("local a again", symbol(x, "a", 4, 0, 0, 0), 2);
        C.due("local b", symbol(x, "b", 4, 0, 0, 0), 3);
        C.due("global b", symbol(x, "b", 4, 0, 0, 1), 4);
        C.due("global ab", symbol(x, "ab", 4, 0, 0, 1), 5);
        C.due("global aa", symbol(x, "aa", 4, 0, 0, 2), 6);
        for (int k = 7; k < 100; k++) {
            C.due("symbol " + k, symbol(x, "a", 4, k, 0, 0), k);
        }
        C.due("the 101st symbol", symbol(x, "c", 4, 0, 0, 0), -1);
        C.due("its draft is gone", x.symbol(4, 0, 0, 0, 0), -1);
        x.write();
        C.due("read", x.read(), 0);
        C.due("count 1", x.count(1), 100);
    }

    private static void promise09Relocation() {
        int[] any = {1, 33, 34, 35, 37, 38, 39};
        int[] textAlone = {16, 17, 19, 23, 24, 25, 26, 27, 28, 44, 45};
        for (int kind = -300; kind < 300; kind++) {
            ObjectFile x = new ObjectFile();
            C.due("a symbol that isn't there", x.relocation(0, 0, kind, 0, 0), -1);
            symbol(x, "a", 4, 0, 0, 1);
            boolean everywhere = has(any, kind);
            boolean inText = everywhere || has(textAlone, kind);
            boolean without = kind == 43 || kind == 51;
            int number = 0;
            for (int s = -1; s < 5; s++) {
                boolean may = s == 0 && inText || everywhere && (s == 1 || s == 2);
                C.due("kind " + kind + " in " + s, x.relocation(s, 0, kind, 0, -5), may ? number++ : -1);
                boolean mayWithout = s == 0 && without;
                C.due("kind " + kind + " without", x.relocation(s, 0, kind, -1, 4), mayWithout ? number++ : -1);
            }
            C.due("symbol 1", x.relocation(0, 0, kind, 1, 0), -1);
            C.due("symbol -2", x.relocation(0, 0, kind, -2, 0), -1);
            C.due("at -1", x.relocation(0, -1, kind, without ? -1 : 0, 0), -1);
            boolean may = inText || without;
            C.due("at far", x.relocation(0, Integer.MAX_VALUE, kind, without ? -1 : 0, 0), may ? number : -1);
        }
        ObjectFile x = new ObjectFile();
        int number = 0;
        for (int addend = -2; addend < 70; addend++) {
            boolean may = addend >= 0 && addend <= 62 && addend % 2 == 0;
            C.due("43 with " + addend, x.relocation(0, 0, 43, -1, addend), may ? number++ : -1);
        }
        C.due("51 with any", x.relocation(0, 0, 51, -1, Integer.MIN_VALUE), number++);
        while (number < 300) {
            C.due("number", x.relocation(0, 0, 51, -1, 7), number++);
        }
        C.due("the 301st", x.relocation(0, 0, 51, -1, 0), -1);
    }

    private static boolean has(int[] row, int wanted) {
        for (int k : row) {
            if (k == wanted) {
                return true;
            }
        }
        return false;
    }

    private static void promise10WriteRefuses() {
        ObjectFile x = new ObjectFile();
        x.feed(2, -1L);
        symbol(x, "a", 0, 3, 2, 0);
        x.relocation(0, 1, 1, 0, 0);
        x.start(4);
        C.due("all three", x.write(), -1);
        C.due("the FILE stays", x.size(), 2);
        x.put(0, 4, 0);
        C.due("the start is at the end", x.write(), -1);
        x.put(0, 1, 0);
        C.due("all in it", x.write() > 0 ? 1 : 0, 1);
        ObjectFile y = new ObjectFile();
        symbol(y, "a", 3, 3, 2, 0);
        C.due("a symbol of .bss", y.write(), -2);
        y.bss(4);
        C.due("a symbol of .bss", y.write(), -2);
        y.bss(5);
        C.yes("a symbol at the end", y.write() > 0);
        symbol(y, "b", 3, Integer.MAX_VALUE, Integer.MAX_VALUE, 0);
        C.due("a symbol far away", y.write(), -2);
        int[][] widths = {{33, 1}, {37, 1}, {34, 2}, {38, 2}, {44, 2}, {45, 2}, {1, 4}, {16, 4}, {17, 4}, {23, 4}, {24, 4},
            {25, 4}, {26, 4}, {27, 4}, {28, 4}, {35, 4}, {39, 4}, {19, 8}, {51, 0}, {43, 6}};
        for (int[] w : widths) {
            for (int size = 0; size < 16; size++) {
                ObjectFile z = new ObjectFile();
                symbol(z, "a", 4, 0, 0, 1);
                bytes(z, 0, size);
                z.relocation(0, 3, w[0], w[0] == 51 || w[0] == 43 ? -1 : 0, 6);
                C.due("kind " + w[0] + " in " + size, z.write() > 0 ? 1 : z.write(), size >= 3 + w[1] ? 1 : -3);
            }
        }
        ObjectFile z = new ObjectFile();
        symbol(z, "a", 4, 0, 0, 1);
        z.put(0, 8, 0);
        z.relocation(2, 0, 33, 0, 0);
        C.due(".data is short", z.write(), -3);
        z.put(2, 1, 0);
        C.yes(".data is long", z.write() > 0);
        z.relocation(0, Integer.MAX_VALUE, 1, 0, 0);
        C.due("far away", z.write(), -3);
    }

    private static void promise10WriteTooLong() {
        ObjectFile x = new ObjectFile();
        for (int s = 0; s < 3; s++) {
            bytes(x, s, 2048);
        }
        int n = x.write();
        C.due("three long sections", n, 52 + 6144 + 16 + 1 + 52 + 3 + 320);
        for (int k = 0; k < 83; k++) {
            C.due("symbol", symbol(x, "a", 4, 0, 0, 0), k);
        }
        // one name of 2 bytes: 52 + 6144 + 84 * 16 + 3 + 52 is 7595, the TABLE from 7596 on
        C.due("83 symbols", x.write(), 7596 + 320);
        // .rela.text brings 12 for each, a name of 11 and an entry of 40
        for (int k = 0; k < 18; k++) {
            x.relocation(0, 0, 51, -1, 0);
        }
        C.due("18 relocations", x.write(), 7596 + 320 + 18 * 12 + 12 + 40);
        symbol(x, "b", 4, 0, 0, 0);
        C.due("8192 + 8", x.write(), -4);
        C.due("the FILE stays", x.size(), 8184);
        C.due("and is read", x.read(), 0);
        C.due("as it was", x.count(1), 83);
    }

    private static void promise10WriteFull() {
        ObjectFile x = new ObjectFile();
        for (int s = 0; s < 3; s++) {
            bytes(x, s, 2048);
        }
        symbol(x, "aaaaaaaaaaaaaaaa", 4, 0, 0, 0);
        symbol(x, "bbbbbbbbbbbbbbbb", 4, 0, 0, 0);
        for (int k = 2; k < 98; k++) {
            symbol(x, "c", 4, 0, 0, 0);
        }
        // 52 + 6144 + 99 * 16 + (1 + 17 + 17 + 2) + 52 is 7869, the TABLE from 7872 on
        C.due("a full FILE", x.write(), 8192);
        C.due("size", x.size(), 8192);
        C.due("read", x.read(), 0);
        C.due("count 1", x.count(1), 98);
        symbol(x, "dddd", 4, 0, 0, 0);
        C.due("more than a full FILE", x.write(), -4);
    }

    private static void promise10WriteLongNames() {
        Model m = new Model();
        for (int k = 0; k < 100; k++) {
            m.made.syms.add(new Model.Sym("name-no-" + (10000000 + k), 4, k, k, k % 3, k % 3));
        }
        byte[] due = Model.written(m.made);
        ObjectFile x = new ObjectFile();
        Sample.load(x, due);
        C.due("read", x.read(), 0);
        x.keep();
        x.cut(0);
        C.due("write", x.write(), due.length);
        for (int k = 0; k < due.length; k++) {
            C.due("byteAt " + k, x.byteAt(k), due[k] & 255);
        }
    }

    private static void promise11To15File() {
        ObjectFile x = new ObjectFile();
        C.no("feed of 0", x.feed(0, 0));
        C.no("feed of 9", x.feed(9, 0));
        C.no("feed of -1", x.feed(-1, 0));
        C.yes("feed of 3", x.feed(3, 0xFF80010203040506L));
        C.yes("feed of 8", x.feed(8, 0x1122334455667788L));
        int[] due = {255, 128, 1, 0x11, 0x22, 0x33, 0x44, 0x55, 0x66, 0x77, 0x88};
        C.due("size", x.size(), 11);
        for (int k = 0; k < due.length; k++) {
            C.due("byteAt " + k, x.byteAt(k), due[k]);
        }
        C.due("byteAt 11", x.byteAt(11), -1);
        C.due("byteAt -1", x.byteAt(-1), -1);
        C.due("spoil", x.spoil(1, 0x12345), 128);
        C.due("what it is", x.byteAt(1), 0x45);
        C.due("spoil", x.spoil(1, -1), 0x45);
        C.due("what it is", x.byteAt(1), 255);
        C.due("spoil 11", x.spoil(11, 0), -1);
        C.due("spoil -1", x.spoil(-1, 0), -1);
        C.no("cut 12", x.cut(12));
        C.no("cut -1", x.cut(-1));
        C.yes("cut 11", x.cut(11));
        C.yes("cut 5", x.cut(5));
        C.due("size", x.size(), 5);
        C.due("byteAt 5", x.byteAt(5), -1);
        C.due("spoil 5", x.spoil(5, 0), -1);
        C.yes("feed behind the cut", x.feed(1, 0));
        C.due("byteAt 5", x.byteAt(5), 0);
        C.yes("cut 0", x.cut(0));
        C.due("size", x.size(), 0);
        for (int far : FAR) {
            C.no("feed far", x.feed(far, 0));
            C.no("cut far", x.cut(far));
            C.due("byteAt far", x.byteAt(far), -1);
            C.due("spoil far", x.spoil(far, 0), -1);
        }
        for (int k = 0; k < 1023; k++) {
            x.feed(8, -1L);
        }
        C.yes("feed up to 8191", x.feed(7, -1L));
        C.no("feed up to 8193", x.feed(2, -1L));
        C.yes("feed up to 8192", x.feed(1, -1L));
        C.no("feed beyond", x.feed(1, 0));
        C.due("size", x.size(), 8192);
        C.due("the last byte", x.byteAt(8191), 255);
        C.due("read of all that", x.read(), 2);
        C.due("write is shorter", x.write(), 444);
        C.due("size", x.size(), 444);
    }

    private static void promise16And17Read() {
        ObjectFile x = new ObjectFile();
        C.due("read of no FILE", x.read(), 1);
        C.due("place", x.place(), 0);
        x.put(1, 2, 0x0908000000000000L);
        x.write();
        C.due("place stays", x.place(), 0);
        C.due("read", x.read(), 0);
        C.due("place", x.place(), -1);
        x.spoil(44, 1);
        C.due("read", x.read(), 9);
        C.due("place", x.place(), 44);
        C.due("the READ object stays", x.at(1, 1), 8);
        x.clear();
        x.write();
        C.due("place of the latest read", x.place(), 44);
        x.spoil(0, 0);
        x.read();
        C.due("the READ object stays", x.at(1, 0), 9);
        x.spoil(0, 127);
        C.due("read", x.read(), 0);
        C.due("the READ object is another one", x.at(1, 0), -1);
        C.due("place", x.place(), -1);
    }

    private static void promise18Keep() {
        ObjectFile x = new ObjectFile();
        x.put(0, 4, 0x1122334400000000L);
        x.start(2);
        x.bss(9);
        x.align(3, 5);
        symbol(x, "g", 0, 1, 2, 1);
        symbol(x, "l", 4, -1, 2, 0);
        x.relocation(0, 0, 51, -1, 3);
        x.relocation(0, 0, 1, 0, 3);
        int n = x.write();
        x.read();
        x.clear();
        x.letter('d');
        x.put(2, 8, 0);
        x.keep();
        C.due("the draft is empty", x.symbol(4, 0, 0, 0, 0), -1);
        C.due("write of what was read", x.write(), n);
        C.no("start 2", x.start(2));
        C.due("the name is taken", symbol(x, "g", 4, 0, 0, 2), -1);
        C.due("a symbol more", symbol(x, "h", 4, 0, 0, 2), 2);
        C.due("a relocation more", x.relocation(0, 0, 1, 2, 0), 2);
        x.put(0, 1, -1L);
        C.due("the READ object stays", x.section(0, 0), 4);
        C.due("count 1", x.count(1), 2);
        x.write();
        C.due("read", x.read(), 0);
        C.due("local first", x.symbolAt(0, 6), 'l');
        C.due("then the global one", x.symbolAt(1, 6), 'g');
        C.due("what points to it", x.relocationAt(1, 3), 1);
        C.due("section 3 0", x.section(3, 0), 9);
        C.due("section 3 1", x.section(3, 1), 32);
        C.due("at 0 3", x.at(0, 3), 0x44);
        C.due("at 0 4", x.at(0, 4), 255);
    }

    private static void promise19And20Section() {
        ObjectFile x = new ObjectFile();
        for (int s = 0; s < 3; s++) {
            bytes(x, s, 3 + s);
            x.align(s, s);
        }
        x.bss(6);
        x.align(3, 3);
        x.write();
        C.due("before the read", x.section(0, 0), 0);
        x.read();
        for (int s = 0; s < 4; s++) {
            C.due("section " + s + " 0", x.section(s, 0), 3 + s);
            C.due("section " + s + " 1", x.section(s, 1), 1 << s);
            C.due("section " + s + " 2", x.section(s, 2), -1);
            C.due("section " + s + " -1", x.section(s, -1), -1);
            C.due("at " + s + " 2", x.at(s, 2), s == 3 ? -1 : 0);
            C.due("at " + s + " end", x.at(s, 3 + s), -1);
            C.due("at " + s + " -1", x.at(s, -1), -1);
        }
        for (int s : new int[] {Integer.MIN_VALUE, -1, 4, Integer.MAX_VALUE}) {
            C.due("section " + s, x.section(s, 0), -1);
            C.due("at " + s, x.at(s, 0), -1);
        }
    }

    private static void promise21And22Starts() {
        ObjectFile x = new ObjectFile();
        x.put(0, 8, 0x0300020001FF07FFL);
        for (int at = 0; at < 8; at += 2) {
            x.start(at);
        }
        x.letter('a');
        x.symbol(4, 0, 0, 0, 0);
        x.relocation(0, 0, 51, -1, 0);
        x.relocation(0, 0, 51, -1, 0);
        x.write();
        C.due("before the read", x.count(0), 0);
        C.due("read", x.read(), 0);
        int[] due = {-1, 4, 1, 2, 2, -1};
        for (int what = -1; what < 5; what++) {
            C.due("count " + what, x.count(what), due[what + 1]);
        }
        for (int far : FAR) {
            C.due("count far", x.count(far), -1);
            C.due("startAt far", x.startAt(far), -1);
        }
        for (int k = 0; k < 4; k++) {
            C.due("startAt " + k, x.startAt(k), 2 * k);
        }
        C.due("startAt 4", x.startAt(4), -1);
        C.due("startAt -1", x.startAt(-1), -1);
    }

    private static void promise23SymbolAt() {
        ObjectFile x = new ObjectFile();
        x.bss(40);
        symbol(x, "weak", 3, 39, 1, 2);
        name(x, "loc");
        x.symbol(4, -1, 17, 0, 2);
        symbol(x, "no", -1, 0, 0, 1);
        name(x, "com");
        x.symbol(5, 32, 4096, 1, 1);
        symbol(x, "loc", 3, 40, 0, 0);
        x.write();
        C.due("read", x.read(), 0);
        int[][] due = {{4, -1, 17, 0, 2, 3, 'l', 'o', 'c', -1}, {3, 40, 0, 0, 0, 3, 'l', 'o', 'c', -1},
            {3, 39, 1, 2, 0, 4, 'w', 'e', 'a', 'k', -1}, {-1, 0, 0, 1, 0, 2, 'n', 'o', -1}, {5, 32, 4096, 1, 1, 3, 'c', 'o', 'm', -1}};
        for (int k = 0; k < due.length; k++) {
            for (int what = 0; what < due[k].length; what++) {
                C.due("symbolAt " + k + " " + what, x.symbolAt(k, what), due[k][what]);
            }
            for (int far : FAR) {
                C.due("symbolAt " + k + " " + far, x.symbolAt(k, far), -1);
            }
            C.due("symbolAt " + k + " -1", x.symbolAt(k, -1), -1);
            C.due("symbolAt " + k + " 22", x.symbolAt(k, 22), -1);
        }
        for (int k : new int[] {Integer.MIN_VALUE, -1, 5, 100, Integer.MAX_VALUE}) {
            C.due("symbolAt " + k + " 2", x.symbolAt(k, 2), -1);
            C.due("symbolAt " + k + " 6", x.symbolAt(k, 6), -1);
        }
    }

    private static void promise24RelocationAt() {
        ObjectFile x = new ObjectFile();
        bytes(x, 0, 70);
        bytes(x, 1, 8);
        bytes(x, 2, 8);
        symbol(x, "g", 4, 0, 0, 1);
        symbol(x, "l", 4, 0, 0, 0);
        x.relocation(2, 7, 33, 0, -1);
        x.relocation(0, 62, 19, 1, Integer.MIN_VALUE);
        x.relocation(1, 4, 35, 1, 1);
        x.relocation(0, 8, 43, -1, 62);
        x.relocation(0, 70, 51, -1, Integer.MAX_VALUE);
        x.write();
        C.due("read", x.read(), 0);
        int[][] due = {{0, 62, 19, 0, Integer.MIN_VALUE}, {0, 8, 43, -1, 62}, {0, 70, 51, -1, Integer.MAX_VALUE},
            {1, 4, 35, 0, 1}, {2, 7, 33, 1, -1}};
        for (int k = 0; k < due.length; k++) {
            for (int what = 0; what < 5; what++) {
                C.due("relocationAt " + k + " " + what, x.relocationAt(k, what), due[k][what]);
            }
            C.due("relocationAt " + k + " 5", x.relocationAt(k, 5), -1);
            C.due("relocationAt " + k + " -1", x.relocationAt(k, -1), -1);
            for (int far : FAR) {
                C.due("relocationAt " + k + " far", x.relocationAt(k, far), -1);
            }
        }
        for (int k : new int[] {Integer.MIN_VALUE, -1, 5, 300, Integer.MAX_VALUE}) {
            C.due("relocationAt " + k, x.relocationAt(k, 1), -1);
        }
    }
}
