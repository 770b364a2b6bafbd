/** The document's Terms up to RELOCATIONS, sentence by sentence: what may be is made, written and read as it was. */
public final class TermsTest {
    private static final Check C = new Check();
    private static final int MOST = Integer.MAX_VALUE;
    private static final int LEAST = Integer.MIN_VALUE;

    public static void main(String[] args) {
        numbersLowestFirst();
        numbersWithoutSign();
        placesFromZero();
        emptyAtFirst();
        fileAtMost8192();
        sectionsHaveBytes();
        bssHasASizeAlone();
        alignments();
        startsEvenAndRising();
        startsAtMost1024();
        startsAreShort();
        symbolsAtMost100();
        namesLong();
        namesCharacters();
        symbolsWhere();
        symbolsBindAndType();
        symbolsNowhere();
        symbolsCommon();
        symbolsInSections();
        symbolsAbsolute();
        symbolsOfTheSameName();
        relocationsAtMost300();
        relocationsAddendAny();
        relocationsWidths();
        relocationsWidthOf43();
        relocationsPlaces();
        relocationsSections();
        relocationsSymbols();
        C.end();
    }

    private static void writtenAndRead(Use x) {
        C.yes("write", x.write() > 0);
        C.due("read", x.read(), 0);
        C.due("place", x.place(), -1);
    }

    private static void numbersLowestFirst() {
        C.sentence("NUMBERS of a file have 1, 2 or 4 bytes (U1, U2, U4), the lowest first");
        Use x = new Use();
        x.symbol("a", 4, 0x01020384, 0x05060788, 0);
        x.write();
        // .symtab from 52 on: the symbol behind the first 16 bytes
        int[] due = {1, 0, 0, 0, 0x84, 3, 2, 1, 0x88, 7, 6, 5, 0, 0, 0xF1, 0xFF};
        for (int k = 0; k < due.length; k++) {
            C.due("byteAt " + (68 + k), x.byteAt(68 + k), due[k]);
        }
        x.spoil(72, 0xFF);
        x.spoil(75, 0x81);
        C.due("read", x.read(), 0);
        C.due("value", x.symbolAt(0, 1), 0x810203FF);
        C.due("size", x.symbolAt(0, 2), 0x05060788);
    }

    private static void numbersWithoutSign() {
        C.sentence("Numbers are without sign.");
        Use x = new Use();
        x.symbol("a", 4, 0, 0, 0);
        int n = x.write();
        x.spoil(35, 0x80);
        C.due("read with the TABLE at 2^31 and more", x.read(), 10);
        x.spoil(35, 0);
        x.spoil(71, 0xFF);
        C.due("read with a name far away", x.read(), 22);
        x.spoil(71, 0);
        x.spoil(n - 320 + 40 + 16 + 3, 0xFF);
        C.due("read with .text far away", x.read(), 12);
    }

    private static void placesFromZero() {
        C.sentence("a place is a byte of it, from 0 on");
        Use x = new Use();
        x.write();
        C.due("byteAt 0", x.byteAt(0), 127);
        C.due("spoil 0", x.spoil(0, 1), 127);
        C.due("read", x.read(), 2);
        C.due("place", x.place(), 0);
    }

    private static void emptyAtFirst() {
        C.sentence("Two objects are in hand: the MADE one and the READ one (both empty at first); and the FILE, .. (none at first).");
        Use x = new Use();
        C.due("size", x.size(), 0);
        for (int what = 0; what < 4; what++) {
            C.due("count " + what, x.count(what), 0);
        }
        C.due("write", x.write(), 444);
        C.due("read", x.read(), 0);
        for (int what = 0; what < 4; what++) {
            C.due("count " + what, x.count(what), 0);
            C.due("section " + what, x.section(what, 0), 0);
        }
    }

    private static void fileAtMost8192() {
        C.sentence("and the FILE, at most 8192 bytes");
        Use x = Big.made(Big.relocationsFor(8192));
        C.due("write", x.write(), 8192);
        C.due("size", x.size(), 8192);
        C.due("the last byte but one entry's", x.byteAt(8192 - 8), 1);
        C.due("byteAt 8192", x.byteAt(8192), -1);
        C.no("feed", x.feed(1, 0));
        C.due("read", x.read(), 0);
        C.due("count 2", x.count(2), 146);
        Use y = Big.made(Big.relocationsFor(8192) + 1);
        C.due("write", y.write(), -4);
    }

    private static void sectionsHaveBytes() {
        C.sentence("SECTIONS 0 .. 3 are .text, .rodata, .data, .bss: the first three have bytes, at most 2048 each");
        for (int s = 0; s < 3; s++) {
            Use x = new Use().zeros(s, 2047);
            C.yes("put up to 2048", x.put(s, 1, -1L));
            C.no("put beyond 2048", x.put(s, 1, 0));
            writtenAndRead(x);
            C.due("section " + s, x.section(s, 0), 2048);
            C.due("the first byte", x.at(s, 0), 0);
            C.due("the last byte", x.at(s, 2047), 255);
            C.due("behind it", x.at(s, 2048), -1);
            for (int other = 0; other < 4; other++) {
                C.due("section " + other, x.section(other, 0), other == s ? 2048 : 0);
            }
        }
    }

    private static void bssHasASizeAlone() {
        C.sentence(".bss a size 0 .. 4096 alone");
        Use x = new Use();
        C.no("put", x.put(3, 1, 0));
        for (int size : new int[] {4096, 1, 0}) {
            C.yes("bss " + size, x.bss(size));
            C.due("write", x.write(), 444);
            C.due("read", x.read(), 0);
            C.due("section 3 0", x.section(3, 0), size);
            C.due("at 3 0", x.at(3, 0), -1);
        }
        C.no("bss 4097", x.bss(4097));
        C.no("bss -1", x.bss(-1));
    }

    private static void alignments() {
        C.sentence("Each has an ALIGNMENT, a power of two 1 .. 64 (1 at first).");
        for (int s = 0; s < 4; s++) {
            Use x = new Use();
            C.due("at first", x.section(s, 1), 1);
            writtenAndRead(x);
            C.due("at first, read", x.section(s, 1), 1);
            for (int power = 0; power < 7; power++) {
                C.yes("align", x.align(s, power));
                writtenAndRead(x);
                for (int other = 0; other < 4; other++) {
                    C.due("section " + other + " 1", x.section(other, 1), other == s ? 1 << power : 1);
                }
            }
            C.no("align by 128", x.align(s, 7));
        }
    }

    private static void startsEvenAndRising() {
        C.sentence("STARTS are places in .text, even, rising");
        Use x = new Use().zeros(0, 12);
        C.yes("start 0", x.start(0));
        C.no("start 1", x.start(1));
        C.no("start 0", x.start(0));
        C.yes("start 4", x.start(4));
        C.no("start 2", x.start(2));
        C.yes("start 10", x.start(10));
        writtenAndRead(x);
        C.due("count 0", x.count(0), 3);
        int[] due = {0, 4, 10, -1};
        for (int k = 0; k < due.length; k++) {
            C.due("startAt " + k, x.startAt(k), due[k]);
        }
        x.start(12);
        C.due("write with a START at the end of .text", x.write(), -1);
        x.put(0, 1, 0);
        writtenAndRead(x);
        C.due("startAt 3", x.startAt(3), 12);
    }

    /** 1024 START calls are too many: .rodata's bytes are told to be .starts', and .rela.text's to be .text's. */
    private static void startsAtMost1024() {
        C.sentence("STARTS are .. at most 1024.");
        Model.Obj o = new Model.Obj();
        Use x = new Use();
        x.put(0, 1, 0);
        o.bytes[0] = new byte[1];
        x.start(0);
        o.starts.add(0);
        o.bytes[1] = new byte[2048];
        for (int k = 0; k < 1024; k++) {
            o.bytes[1][2 * k] = (byte) (2 * k);
            o.bytes[1][2 * k + 1] = (byte) (2 * k >> 8);
        }
        for (int k = 0; k < 2048; k += 8) {
            x.put(1, 8, Sample.eight(o.bytes[1], k));
        }
        for (int k = 0; k < 171; k++) {
            x.relocation(0, 0, 51, -1, 0);
            o.rels.add(new Model.Rel(0, 0, 51, -1, 0));
        }
        byte[] now = Model.written(o);
        C.due("write", x.write(), now.length);
        byte[] wanted = now.clone();
        // the entries: 1 .text, 2 .rodata, 5 .starts, 6 .rela.text
        Spoiled s = new Spoiled(C, wanted);
        s.entry(1, 4, s.number(6, 4)).entry(1, 5, 2048).entry(6, 5, 0);
        s.entry(5, 4, s.number(2, 4)).entry(5, 5, 2048).entry(2, 5, 0);
        s.entry(5, 8, 1).entry(1, 8, 1);
        x.reshape(now, wanted);
        C.due("read", x.read(), 0);
        C.due("count 0", x.count(0), 1024);
        C.due("startAt 1023", x.startAt(1023), 2046);
        C.due("startAt 1024", x.startAt(1024), -1);
        // of each relocation's 12 bytes the fifth alone is 51, which has both of its lowest bits
        C.due("count 3", x.count(3), 1024 - 171);
        x.keep();
        C.no("one START more", x.start(2046));
        C.due("write of 1024", x.write(), 52 + 2048 + 2048 + 16 + 1 + 60 + 3 + 9 * 40);
        C.due("read again", x.read(), 0);
        C.due("count 0 again", x.count(0), 1024);
    }

    private static void startsAreShort() {
        C.sentence("A START is SHORT if the byte there hasn't both of its lowest bits.");
        for (int b = 0; b < 256; b++) {
            Use x = new Use();
            x.put(0, 4, (long) b << 56 | 0x00FFFFFF_00000000L);
            x.start(0);
            x.start(2);
            writtenAndRead(x);
            C.due("SHORT by " + b, x.count(3), b % 4 == 3 ? 0 : 1);
            C.due("the flags", x.byteAt(36), b % 4 == 3 ? 0 : 1);
        }
    }

    private static void symbolsAtMost100() {
        C.sentence("SYMBOLS are numbered from 0 on, at most 100");
        Use x = new Use();
        for (int k = 0; k < 100; k++) {
            C.due("symbol", x.symbol("a", 4, 1000 + k, 0, 0), k);
        }
        C.due("one more", x.symbol("a", 4, 0, 0, 0), -1);
        writtenAndRead(x);
        C.due("count 1", x.count(1), 100);
        C.due("symbolAt 0", x.symbolAt(0, 1), 1000);
        C.due("symbolAt 99", x.symbolAt(99, 1), 1099);
        C.due("symbolAt 100", x.symbolAt(100, 2), -1);
    }

    private static void namesLong() {
        C.sentence("a NAME, 1 to 16 characters");
        Use x = new Use();
        C.due("no character", x.symbol(4, 0, 0, 0, 0), -1);
        for (int n = 1; n <= 16; n++) {
            C.due(n + " characters", x.symbol("0123456789abcdef".substring(0, n), 4, 0, 0, 0), n - 1);
        }
        C.due("17 characters", x.symbol("0123456789abcdefg", 4, 0, 0, 0), 16);
        writtenAndRead(x);
        for (int n = 1; n <= 16; n++) {
            C.due("how long", x.symbolAt(n - 1, 5), n);
            C.due("the last character", x.symbolAt(n - 1, 5 + n), "0123456789abcdef".charAt(n - 1));
            C.due("behind it", x.symbolAt(n - 1, 6 + n), -1);
        }
        C.due("the 17th was refused", x.symbolAt(16, 5), 16);
    }

    private static void namesCharacters() {
        C.sentence("characters 33 .. 126");
        Use x = new Use();
        int symbols = 0;
        for (int c = 0; c < 256; c++) {
            boolean may = c >= 33 && c <= 126;
            C.due("letter " + c, x.letter(c) ? 1 : 0, may ? 1 : 0);
            if (may) {
                C.due("symbol", x.symbol(4, c, 0, 0, 0), symbols++);
            }
        }
        writtenAndRead(x);
        for (int k = 0; k < 94; k++) {
            C.due("its name", x.symbolAt(k, 6), 33 + k);
        }
    }

    private static void symbolsWhere() {
        C.sentence("WHERE: -1 nowhere, 0 .. 3 a section, 4 absolute, 5 common");
        int[] inFile = {0, 1, 2, 3, 4, 65521, 65522};
        for (int where = -1; where <= 5; where++) {
            Use x = new Use();
            C.due("symbol", x.symbol("a", where, where == 5 ? 1 : 0, where == 5 ? 1 : 0, 1), 0);
            writtenAndRead(x);
            C.due("where", x.symbolAt(0, 0), where);
            C.due("where in the file", x.u2(52 + 16 + 14), inFile[where + 1]);
        }
        Use y = new Use();
        C.due("-2", y.symbol("a", -2, 0, 0, 1), -1);
        C.due("6", y.symbol("a", 6, 1, 1, 1), -1);
    }

    private static void symbolsBindAndType() {
        C.sentence("a BIND, 0 local, 1 global, 2 weak; a TYPE 0 .. 2");
        for (int bind = -1; bind <= 3; bind++) {
            for (int type = -1; type <= 3; type++) {
                Use x = new Use();
                boolean may = bind >= 0 && bind <= 2 && type >= 0 && type <= 2;
                C.due("symbol", x.letters("a").symbol(4, 0, 0, bind, type), may ? 0 : -1);
                writtenAndRead(x);
                C.due("count 1", x.count(1), may ? 1 : 0);
                C.due("bind", x.symbolAt(0, 3), may ? bind : -1);
                C.due("type", x.symbolAt(0, 4), may ? type : -1);
            }
        }
    }

    private static int symbols;

    /** Whether the symbol, with a name of its own, is taken; it must be, if it may be, as the next number. */
    private static void taken(Use x, boolean may, int where, int value, int size, int bind) {
        String call = "symbol " + where + " " + value + " " + size + " " + bind;
        C.due(call, x.symbol("n" + (char) ('0' + symbols), where, value, size, bind), may ? symbols : -1);
        symbols += may ? 1 : 0;
    }

    private static Use fresh() {
        symbols = 0;
        return new Use();
    }

    private static void facts(Use x, int k, int value, int size) {
        C.due("value of " + k, x.symbolAt(k, 1), value);
        C.due("size of " + k, x.symbolAt(k, 2), size);
    }

    private static void symbolsNowhere() {
        C.sentence("Nowhere: value and size are 0, the bind isn't 0.");
        Use x = fresh();
        taken(x, true, -1, 0, 0, 1);
        taken(x, true, -1, 0, 0, 2);
        taken(x, false, -1, 0, 0, 0);
        for (int wrong : new int[] {LEAST, -1, 1, MOST}) {
            taken(x, false, -1, wrong, 0, 1);
            taken(x, false, -1, 0, wrong, 1);
            taken(x, false, -1, wrong, -wrong, 2);
        }
        writtenAndRead(x);
        C.due("count 1", x.count(1), 2);
    }

    private static void symbolsCommon() {
        C.sentence("Common: the value is an alignment (as above), the size 1 .. 4096, the bind 1.");
        Use x = fresh();
        for (int power = 0; power < 7; power++) {
            taken(x, true, 5, 1 << power, 1, 1);
        }
        taken(x, true, 5, 1, 4096, 1);
        for (int value : new int[] {LEAST, -64, -1, 0, 3, 5, 63, 65, 96, 128, 1 << 30, MOST}) {
            taken(x, false, 5, value, 1, 1);
        }
        for (int size : new int[] {LEAST, -1, 0, 4097, MOST}) {
            taken(x, false, 5, 1, size, 1);
        }
        taken(x, false, 5, 1, 1, 0);
        taken(x, false, 5, 1, 1, 2);
        writtenAndRead(x);
        C.due("count 1", x.count(1), 8);
        facts(x, 6, 64, 1);
        facts(x, 7, 1, 4096);
    }

    private static void symbolsInSections() {
        C.sentence("In a section: value and size are 0 or more, both together not above the section's size.");
        for (int s = 0; s < 4; s++) {
            Use x = fresh();
            if (s == 3) {
                x.bss(10);
            } else {
                x.zeros(s, 10);
            }
            taken(x, false, s, -1, 0, 0);
            taken(x, false, s, 0, -1, 0);
            taken(x, false, s, 1, -1, 0);
            taken(x, false, s, LEAST, LEAST, 0);
            taken(x, true, s, 0, 0, 0);
            taken(x, true, s, 0, 10, 1);
            taken(x, true, s, 10, 0, 2);
            taken(x, true, s, 4, 6, 0);
            writtenAndRead(x);
            C.due("count 1", x.count(1), 4);
            facts(x, 1, 4, 6);
            facts(x, 2, 0, 10);
            facts(x, 3, 10, 0);
            for (int[] beyond : new int[][] {{11, 0}, {0, 11}, {10, 1}, {5, 6}, {MOST, 1}, {1, MOST}, {MOST, MOST}}) {
                x.keep();
                C.due("symbol", x.symbol("z", s, beyond[0], beyond[1], 0), 4);
                C.due("write of " + beyond[0] + " " + beyond[1], x.write(), -2);
            }
        }
    }

    private static void symbolsAbsolute() {
        C.sentence("Absolute: any value, the size 0 or more.");
        Use x = fresh();
        int[] values = {LEAST, -1, 0, 1, MOST};
        for (int value : values) {
            taken(x, true, 4, value, 0, 0);
        }
        taken(x, true, 4, MOST, MOST, 0);
        taken(x, false, 4, 0, -1, 0);
        taken(x, false, 4, 0, LEAST, 0);
        writtenAndRead(x);
        for (int k = 0; k < values.length; k++) {
            facts(x, k, values[k], 0);
        }
        facts(x, 5, MOST, MOST);
        C.due("count 1", x.count(1), 6);
    }

    private static void symbolsOfTheSameName() {
        C.sentence("No two that aren't local have the same name.");
        int[][] binds = {{0, 0}, {0, 1}, {0, 2}, {1, 0}, {2, 0}, {1, 1}, {1, 2}, {2, 1}, {2, 2}};
        for (int[] b : binds) {
            Use x = new Use();
            C.due("the first", x.symbol("abcdefghijklmnop", 4, 0, 0, b[0]), 0);
            C.due("another one", x.symbol("z", 4, 0, 0, 1), 1);
            boolean may = b[0] == 0 || b[1] == 0;
            C.due("the same name, binds " + b[0] + " " + b[1], x.symbol("abcdefghijklmnop", 3, 0, 0, b[1]), may ? 2 : -1);
            C.due("another last character", x.symbol("abcdefghijklmnoq", 4, 0, 0, 1), may ? 3 : 2);
            C.due("a shorter name", x.symbol("abcdefghijklmno", 4, 0, 0, 1), may ? 4 : 3);
            C.due("another first character", x.symbol("bbcdefghijklmnop", 4, 0, 0, 2), may ? 5 : 4);
            C.due("a large letter", x.symbol("ABCDEFGHIJKLMNOP", 4, 0, 0, 2), may ? 6 : 5);
            writtenAndRead(x);
            C.due("count 1", x.count(1), may ? 7 : 6);
        }
    }

    private static void relocationsAtMost300() {
        C.sentence("RELOCATIONS are numbered from 0 on, at most 300");
        Use x = new Use();
        for (int k = 0; k < 300; k++) {
            C.due("relocation", x.relocation(0, 0, 51, -1, k), k);
        }
        C.due("one more", x.relocation(0, 0, 51, -1, 0), -1);
        writtenAndRead(x);
        C.due("count 2", x.count(2), 300);
        C.due("relocationAt 0", x.relocationAt(0, 4), 0);
        C.due("relocationAt 299", x.relocationAt(299, 4), 299);
        C.due("relocationAt 300", x.relocationAt(300, 4), -1);
    }

    private static void relocationsAddendAny() {
        C.sentence("an ADDEND (any)");
        Use x = new Use().zeros(0, 4);
        x.symbol("a", 4, 0, 0, 0);
        int[] addends = {LEAST, -1, 0, 1, 63, 64, MOST};
        for (int addend : addends) {
            x.relocation(0, 0, 1, 0, addend);
            x.relocation(0, 0, 51, -1, addend);
        }
        writtenAndRead(x);
        for (int k = 0; k < addends.length; k++) {
            C.due("addend", x.relocationAt(2 * k, 4), addends[k]);
            C.due("addend of 51", x.relocationAt(2 * k + 1, 4), addends[k]);
        }
    }

    private static void relocationsWidths() {
        C.sentence("Kinds have a WIDTH: 33, 37: 1; 34, 38, 44, 45: 2; 1, 16, 17, 23, 24, 25, 26, 27, 28, 35, 39: 4; 19: 8; 51: 0");
        int[][] widths = {{51}, {33, 37}, {34, 38, 44, 45}, {}, {1, 16, 17, 23, 24, 25, 26, 27, 28, 35, 39}, {}, {}, {}, {19}};
        for (int width = 0; width < widths.length; width++) {
            for (int kind : widths[width]) {
                Use x = new Use();
                x.symbol("a", 4, 0, 0, 1);
                x.zeros(0, 3);
                C.due("relocation", x.relocation(0, 3, kind, kind == 51 ? -1 : 0, 6), 0);
                for (int size = 3; size < 3 + width; size++) {
                    C.due("write of " + kind + " in " + size, x.write(), -3);
                    x.put(0, 1, 0);
                }
                writtenAndRead(x);
                C.due("section 0 0", x.section(0, 0), 3 + width);
                C.due("kind", x.relocationAt(0, 2), kind);
                // .rela.text begins behind .text at a multiple of 4
                int rela = 52 + (3 + width + 3) / 4 * 4;
                C.due("its place in the file", x.spoil(rela, 4), 3);
                C.due("read of " + kind + " at 4", x.read(), 32);
            }
        }
    }

    private static void relocationsWidthOf43() {
        C.sentence("43: the addend, which is even, 0 .. 62.");
        Use x = new Use();
        int number = 0;
        for (int addend : new int[] {LEAST, -2, -1, 1, 3, 61, 63, 64, 66, MOST}) {
            C.due("43 by " + addend, x.relocation(0, 0, 43, -1, addend), -1);
        }
        for (int addend = 0; addend <= 62; addend += 2) {
            C.due("43 by " + addend, x.relocation(0, 0, 43, -1, addend), number++);
            if (addend > 0) {
                C.due("write", x.write(), -3);
                x.put(0, 1, 0);
                C.due("write", x.write(), -3);
                x.put(0, 1, 0);
            }
            C.yes("write", x.write() > 0);
        }
        C.due("read", x.read(), 0);
        C.due("count 2", x.count(2), 32);
        C.due("addend", x.relocationAt(31, 4), 62);
    }

    private static void relocationsPlaces() {
        C.sentence("From the place on there are so many bytes at least in the section (the place is 0 or more; it may be the section's end if the width is 0).");
        for (int s = 0; s < 3; s++) {
            Use x = new Use().zeros(s, 9);
            x.symbol("a", 4, 0, 0, 1);
            C.due("at -1", x.relocation(s, -1, 1, 0, 0), -1);
            C.due("at 0", x.relocation(s, 0, 1, 0, 0), 0);
            C.due("at 5", x.relocation(s, 5, 1, 0, 0), 1);
            C.due("at 8", x.relocation(s, 8, 33, 0, 0), 2);
            writtenAndRead(x);
            C.due("place", x.relocationAt(0, 1), 0);
            C.due("place", x.relocationAt(1, 1), 5);
            C.due("place", x.relocationAt(2, 1), 8);
            int[][] beyond = {{6, 1}, {9, 33}, {8, 34}, {9, 1}, {10, 33}, {MOST, 1}, {MOST, 33}, {MOST - 3, 1}};
            for (int[] b : beyond) {
                x.keep();
                C.due("at " + b[0], x.relocation(s, b[0], b[1], 0, 0), 3);
                C.due("write", x.write(), -3);
            }
        }
        Use y = new Use().zeros(0, 9);
        y.relocation(0, 9, 51, -1, 0);
        y.relocation(0, 9, 43, -1, 0);
        writtenAndRead(y);
        C.due("51 at the end", y.relocationAt(0, 1), 9);
        C.due("43 at the end", y.relocationAt(1, 1), 9);
        for (int kind : new int[] {51, 43}) {
            y.keep();
            y.relocation(0, 10, kind, -1, 0);
            C.due("behind the end", y.write(), -3);
        }
    }

    private static boolean has(int[] row, int wanted) {
        for (int k : row) {
            if (k == wanted) {
                return true;
            }
        }
        return false;
    }

    private static final int[] ANYWHERE = {1, 33, 34, 35, 37, 38, 39};
    private static final int[] TEXT_ALONE = {16, 17, 19, 23, 24, 25, 26, 27, 28, 43, 44, 45, 51};

    private static void relocationsSections() {
        C.sentence("1, 33, 34, 35, 37, 38, 39 may be in any of the three sections, the others in .text alone.");
        for (int s = -1; s <= 4; s++) {
            Use x = new Use();
            x.symbol("a", 4, 0, 0, 1);
            int number = 0;
            for (int kind = -2; kind < 260; kind++) {
                boolean may = s >= 0 && s <= 2 && (has(ANYWHERE, kind) || s == 0 && has(TEXT_ALONE, kind));
                int symbol = kind == 43 || kind == 51 ? -1 : 0;
                C.due("kind " + kind + " in " + s, x.relocation(s, 0, kind, symbol, 0), may ? number++ : -1);
            }
            for (int far : new int[] {LEAST, MOST, 256 + 1, 1 << 8 | 51, -255}) {
                C.due("kind " + far, x.relocation(0, 0, far, 0, 0), -1);
            }
        }
    }

    private static void relocationsSymbols() {
        C.sentence("43 and 51 have no symbol, the others one.");
        Use x = new Use();
        C.due("a symbol where there is none", x.relocation(0, 0, 1, 0, 0), -1);
        x.symbol("a", 4, 0, 0, 1);
        x.symbol("b", 4, 0, 0, 1);
        int number = 0;
        for (int[] row : new int[][] {ANYWHERE, TEXT_ALONE}) {
            for (int kind : row) {
                boolean none = kind == 43 || kind == 51;
                for (int symbol : new int[] {LEAST, -2, 2, 100, MOST}) {
                    C.due(kind + " with " + symbol, x.relocation(0, 0, kind, symbol, 0), -1);
                }
                C.due(kind + " without", x.relocation(0, 0, kind, -1, 0), none ? number++ : -1);
                C.due(kind + " with 0", x.relocation(0, 0, kind, 0, 0), none ? -1 : number++);
                C.due(kind + " with 1", x.relocation(0, 0, kind, 1, 0), none ? -1 : number++);
            }
        }
        x.zeros(0, 8);
        writtenAndRead(x);
        C.due("count 2", x.count(2), 2 * 18 + 2);
    }
}
