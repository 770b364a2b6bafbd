import java.util.ArrayList;
import java.util.Arrays;

/** Promises 16 and 17: every fault with its place, and which of two comes first. */
public final class FaultsTest {
    private static final Check C = new Check();
    private static final int TABLE = Sample.TABLE;
    private static final int SYMTAB = Sample.SYMTAB;
    private static final int RELA = Sample.RELA;

    public static void main(String[] args) {
        header();
        headerNumbers();
        entries();
        overlaps();
        labels();
        entryNumbers();
        missingParts();
        lengths();
        manyRelocations();
        symbols();
        relocations();
        starts();
        theFirstFaultCounts();
        C.end();
    }

    /** A file as a row of bytes, changed before it is read. */
    private static final class Spoiled {
        private final byte[] row;

        Spoiled(byte[] row) {
            this.row = row;
        }

        Spoiled() {
            this(Sample.file());
        }

        Spoiled set(int at, int bytes, long number) {
            for (int k = 0; k < bytes; k++) {
                row[at + k] = (byte) (number >> 8 * k);
            }
            return this;
        }

        Spoiled entry(int e, int number, long to) {
            return set(TABLE + 40 * e + 4 * number, 4, to);
        }

        void due(String what, int fault, int place) {
            ObjectFile x = new ObjectFile();
            Sample.load(x, row);
            C.due(what, x.read(), fault);
            C.due(what + ": place", x.place(), place);
        }

        void sound(String what) {
            due(what, 0, -1);
        }
    }

    private static Spoiled set(int at, int bytes, long number) {
        return new Spoiled().set(at, bytes, number);
    }

    private static Spoiled entry(int e, int number, long to) {
        return new Spoiled().entry(e, number, to);
    }

    private static int spot(int e, int number) {
        return TABLE + 40 * e + 4 * number;
    }

    private static void header() {
        new Spoiled().sound("the sample");
        for (int n : new int[] {0, 1, 51}) {
            new Spoiled(Arrays.copyOf(Sample.file(), n)).due("1: " + n + " bytes", 1, n);
        }
        new Spoiled(Arrays.copyOf(Sample.file(), 52)).due("10: 52 bytes", 10, 32);
        new Spoiled(Arrays.copyOf(Sample.file(), 643)).due("10: 643 bytes", 10, 32);
        new Spoiled(Arrays.copyOf(Sample.file(), 645)).sound("a byte behind");
        for (int k = 0; k < 4; k++) {
            set(k, 1, 0).due("2", 2, k);
        }
        for (int k = 4; k < 7; k++) {
            set(k, 1, 2).due("" + (k - 1), k - 1, k);
            set(k, 1, 0).due("" + (k - 1), k - 1, k);
        }
        for (int k = 7; k < 16; k++) {
            set(k, 1, 1).due("6", 6, k);
        }
        set(16, 2, 2).due("7", 7, 16);
        set(16, 2, 257).due("7", 7, 16);
        set(18, 2, 242).due("8", 8, 18);
        set(18, 2, 243 + 256).due("8", 8, 18);
    }

    private static void headerNumbers() {
        long[][] wrong = {{20, 4, 0, 2, 1 << 24 | 1}, {24, 4, 1, 1L << 31}, {28, 4, 1, 1L << 31},
            {32, 4, 0, 48, 51, 53, 245, 246, 247, (1L << 32) - 1}, {36, 4, 2, 256, (1L << 32) - 1}, {40, 2, 51, 53, 0x134},
            {42, 2, 1, 256}, {44, 2, 1, 256}, {46, 2, 0, 39, 41, 256 + 40}, {48, 2, 0, 17, 256, 65535}, {50, 2, 0, 10, 11, 65535}};
        for (long[] w : wrong) {
            for (int k = 2; k < w.length; k++) {
                set((int) w[0], (int) w[1], w[k]).due("9: " + w[0] + " " + w[k], 9, (int) w[0]);
            }
        }
        set(48, 2, 1).due("9: one entry", 9, 50);
        set(48, 2, 11).due("10: one entry too many", 10, 32);
        set(32, 4, 248).due("10: too far", 10, 32);
        set(32, 4, 1L << 31).due("10: far away", 10, 32);
        set(32, 4, (1L << 32) - 4).due("10: far away", 10, 32);
    }

    private static void entries() {
        for (int k = 0; k < 10; k++) {
            entry(0, k, 1L << 24).due("11: entry 0", 11, spot(0, k));
        }
        for (long sort : new long[] {0, 5, 6, 7, 9, 256 + 1, 1L << 31}) {
            entry(3, 1, sort).due("11: sort " + sort, 11, spot(3, 1));
        }
        entry(3, 4, 644).sound("nothing at the end of the file");
        entry(3, 4, 645).due("12: nothing beyond the end", 12, spot(3, 4));
        entry(3, 4, 0).sound("nothing in the header");
        entry(1, 4, 48).due("12: in the header", 12, spot(1, 4));
        entry(1, 4, 640).due("12: beyond the end", 12, spot(1, 4));
        entry(1, 5, (1L << 32) - 52).due("12: too long", 12, spot(1, 4));
        entry(1, 5, (1L << 32) - 1).due("12: too long", 12, spot(1, 4));
        entry(4, 4, (1L << 32) - 1).sound(".bss begins anywhere");
        for (long alignment : new long[] {0, 3, 65, 128, 256 + 1, 1L << 31}) {
            entry(4, 8, alignment).due("13: alignment " + alignment, 13, spot(4, 8));
            entry(3, 8, alignment).due("13: alignment " + alignment, 13, spot(3, 8));
        }
        entry(3, 8, 4).due("13: 66 by 4", 13, spot(3, 8));
        entry(3, 8, 2).sound("66 by 2");
        entry(1, 8, 8).due("13: 52 by 8", 13, spot(1, 8));
        entry(4, 8, 64).sound(".bss by 64");
        entry(1, 8, 1).sound(".text by 1");
        entry(5, 8, 1).sound(".starts by 1");
        entry(7, 8, 32).sound(".symtab by 32");
    }

    private static void overlaps() {
        entry(1, 5, 12).sound(".text up to .rodata");
        entry(1, 5, 13).due("14: .text into .rodata", 14, spot(2, 4));
        entry(2, 4, 56).due("14: .rodata into .text", 14, spot(2, 4));
        entry(9, 5, 74).sound(".shstrtab up to the TABLE");
        entry(9, 5, 75).due("14: into the TABLE", 14, spot(9, 4));
        entry(3, 5, 1).due("14: .starts are .data's", 14, spot(5, 4));
        entry(4, 5, 4000).sound(".bss has no bytes in the file");
        entry(3, 4, 53).sound("nothing within .text");
        entry(2, 4, 240).due("14: a part into .shstrtab, which is behind", 14, spot(9, 4));
        entry(2, 4, 248).due("14: within the TABLE", 14, spot(2, 4));
    }

    private static void labels() {
        set(50, 2, 7).due("15: the names' sort", 15, spot(7, 1));
        set(50, 2, 4).due("15: the names' sort", 15, spot(4, 1));
        entry(9, 5, 0).due("15: no bytes", 15, spot(9, 5));
        set(Sample.SHSTRTAB, 1, 1).due("15: the first byte", 15, 170);
        set(Sample.SHSTRTAB + 70, 1, 1).due("15: the last byte", 15, 240);
        entry(9, 5, 70).due("15: the last byte", 15, 239);
        for (long at : new long[] {0, 2, 6, 71, 72, 1L << 31, (1L << 32) - 1}) {
            entry(1, 0, at).due("16: name at " + at, 16, spot(1, 0));
        }
        entry(1, 0, 39).sound("the end of .rela.text");
        entry(3, 0, 1).due("16: .text again", 16, spot(3, 0));
        entry(1, 0, 15).due("16: .data again", 16, spot(3, 0));
        set(Sample.SHSTRTAB + 3, 1, 'E').due("16: another name", 16, spot(1, 0));
        set(Sample.SHSTRTAB + 6, 1, 'x').due("16: a longer name", 16, spot(1, 0));
        set(Sample.SHSTRTAB + 5, 1, 0).due("16: a shorter name", 16, spot(1, 0));
    }

    private static void entryNumbers() {
        // sort, flags, zero, link, info, one's bytes: of every entry, but for the info of .symtab
        int[] order = {1, 2, 3, 6, 7, 9};
        for (int e = 1; e < 10; e++) {
            for (int k : order) {
                if (k == 1 || e == 7 && k == 7) {
                    continue;
                }
                long was = Sample.ENTRIES[e][k];
                entry(e, k, was + 1).due("17: " + e + " " + k, 17, spot(e, k));
                entry(e, k, was | 1L << 31).due("17: " + e + " " + k, 17, spot(e, k));
                entry(e, 9, 77).entry(e, k, was + 1).due("17: two", 17, spot(e, k));
            }
        }
        entry(1, 1, 4).due("17: sort", 17, spot(1, 1));
        entry(1, 1, 4).entry(1, 2, 0).due("17: sort before flags", 17, spot(1, 1));
        entry(4, 1, 1).entry(4, 4, 60).entry(4, 8, 1).entry(4, 5, 1).due("17: sort of .bss", 17, spot(4, 1));
        entry(6, 6, 0).due("17: no link", 17, spot(6, 6));
        entry(6, 7, 0).due("17: no info", 17, spot(6, 7));
        entry(6, 7, 2).due("17: another section", 17, spot(6, 7));
        entry(7, 6, 0).due("17: no link", 17, spot(7, 6));
        entry(7, 6, 9).due("17: .shstrtab", 17, spot(7, 6));
        entry(6, 9, 0).entry(5, 9, 0).due("17: the first entry", 17, spot(5, 9));
    }

    private static byte[] written(Model.Obj o) {
        return Model.written(o);
    }

    private static Model.Obj object(int text, int rodata, int data) {
        Model.Obj o = new Model.Obj();
        o.bytes = new byte[][] {new byte[text], new byte[rodata], new byte[data]};
        return o;
    }

    /** The entries of an empty object but for some, in their order. */
    private static Spoiled without(String... missing) {
        byte[] all = written(object(0, 0, 0));
        Model m = new Model();
        m.file = all;
        int table = (int) m.u(32, 4);
        ArrayList<String> names = new ArrayList<>(Model.NAMES);
        names.removeIf(n -> n.startsWith(".rela") || n.equals(".starts"));
        int to = 1;
        for (int e = 1; e < 8; e++) {
            if (!Arrays.asList(missing).contains(names.get(e - 1))) {
                System.arraycopy(all, table + 40 * e, all, table + 40 * to, 40);
                all[table + 40 * to + 24] = (byte) (names.get(e - 1).equals(".symtab") ? to + 1 : 0);
                to++;
            }
        }
        return new Spoiled(all).set(48, 2, to).set(50, 2, to - 1);
    }

    private static void missingParts() {
        without().sound("none is missing");
        without(".text").sound("without .text");
        without(".text", ".rodata", ".data", ".bss").sound("without sections");
        without(".symtab").due("18: without .symtab", 18, 50);
        without(".symtab", ".strtab").due("18: without both", 18, 50);
        without(".symtab", ".shstrtab").due("16: the names are .strtab's", 16, 124 + 40);
        // of the empty object .symtab, .strtab and .shstrtab are the entries 5, 6 and 7 of a TABLE at 124
        Spoiled twice = new Spoiled(written(object(0, 0, 0))).set(124 + 40 * 6, 4, 42);
        twice.set(124 + 40 * 5 + 24, 4, 0).due("16: .shstrtab again", 16, 124 + 40 * 7);
        Spoiled swapped = new Spoiled(written(object(0, 0, 0))).set(124 + 40 * 6, 4, 42).set(124 + 40 * 7, 4, 34);
        swapped.due("17: the link of .symtab", 17, 124 + 40 * 5 + 24);
        swapped.set(124 + 40 * 5 + 24, 4, 7).due("18: the names are .strtab's", 18, 50);
        ObjectFile x = new ObjectFile();
        x.align(0, 6);
        x.write();
        x.read();
        C.due("alignment of .text", x.section(0, 1), 64);
        Sample.load(x, without(".text").row);
        C.due("without .text", x.read(), 0);
        C.due("alignment of what is missing", x.section(0, 1), 1);
        C.due("bytes of what is missing", x.section(0, 0), 0);
    }

    private static int entrySpot(byte[] all, int e, int number) {
        Model m = new Model();
        m.file = all;
        return (int) m.u(32, 4) + 40 * e + 4 * number;
    }

    private static void lengths() {
        for (int s = 0; s < 3; s++) {
            byte[] most = written(object(s == 0 ? 2048 : 0, s == 1 ? 2048 : 0, s == 2 ? 2048 : 0));
            new Spoiled(most).sound("2048 bytes");
            byte[] more = written(object(s == 0 ? 2049 : 0, s == 1 ? 2049 : 0, s == 2 ? 2049 : 0));
            new Spoiled(more).due("19: 2049 bytes", 19, entrySpot(more, s + 1, 5));
        }
        entry(4, 5, 4096).sound("4096 of .bss");
        entry(4, 5, 4097).due("19: 4097 of .bss", 19, spot(4, 5));
        entry(4, 5, (1L << 32) - 1).due("19: far more of .bss", 19, spot(4, 5));
        entry(5, 5, 3).due("19: half a start", 19, spot(5, 5));
        entry(6, 5, 13).due("19: no whole relocation", 19, spot(6, 5));
        entry(7, 5, 63).due("19: no whole symbol", 19, spot(7, 5));
        entry(7, 5, 0).due("19: no symbol at all", 19, spot(7, 5));
        entry(7, 5, 48).due("30: a symbol less", 30, RELA + 4);
        entry(8, 5, 0).due("20: no bytes", 20, spot(8, 5));
        set(Sample.STRTAB, 1, 1).due("20: the first byte", 20, 160);
        set(Sample.STRTAB + 9, 1, 1).due("20: the last byte", 20, 169);
        Model.Obj o = object(0, 0, 0);
        for (int k = 0; k < 100; k++) {
            o.syms.add(new Model.Sym("a", 4, 0, 0, 0, 0));
        }
        new Spoiled(written(o)).sound("100 symbols");
        o.syms.add(new Model.Sym("a", 4, 0, 0, 0, 0));
        byte[] more = written(o);
        new Spoiled(more).due("19: 101 symbols", 19, entrySpot(more, 5, 5));
        Model.Obj st = object(2048, 0, 0);
        for (int k = 0; k < 1024; k++) {
            st.starts.add(2 * k);
        }
        new Spoiled(written(st)).sound("1024 starts");
        st.starts.add(0);
        byte[] moreStarts = written(st);
        new Spoiled(moreStarts).due("19: 1025 starts", 19, entrySpot(moreStarts, 5, 5));
    }

    private static void manyRelocations() {
        Model.Obj o = object(8, 8, 8);
        o.syms.add(new Model.Sym("a", 4, 0, 0, 1, 0));
        for (int k = 0; k < 300; k++) {
            o.rels.add(new Model.Rel(k % 3, 0, 1, 0, k));
        }
        new Spoiled(written(o)).sound("300 relocations");
        for (int s = 0; s < 3; s++) {
            o.rels.add(new Model.Rel(s, 0, 1, 0, 0));
            byte[] more = written(o);
            new Spoiled(more).due("19: the last one goes beyond", 19, entrySpot(more, 7, 5));
            o.rels.remove(300);
        }
        for (int k = 0; k < 202; k++) {
            o.rels.add(new Model.Rel(k % 2, 0, 1, 0, 0));
        }
        byte[] more = written(o);
        new Spoiled(more).due("19: the second one goes beyond", 19, entrySpot(more, 6, 5));
    }

    private static void symbols() {
        for (int k = 0; k < 16; k++) {
            set(SYMTAB + k, 1, 128).due("21", 21, SYMTAB + k);
        }
        int ain = SYMTAB + 16;
        int main = SYMTAB + 32;
        int n = SYMTAB + 48;
        for (long at : new long[] {0, 4, 9, 10, 11, 1L << 31, (1L << 32) - 1}) {
            set(main, 4, at).due("22: name at " + at, 22, main);
        }
        set(main, 4, 2).sound("the name is in");
        Model.Obj o = object(0, 0, 0);
        o.syms.add(new Model.Sym("0123456789abcdef", 4, 0, 0, 0, 0));
        new Spoiled(written(o)).sound("16 characters");
        o.syms.add(new Model.Sym("0123456789abcdefg", 4, 0, 0, 0, 0));
        new Spoiled(written(o)).due("22: 17 characters", 22, 52 + 32);
        set(Sample.STRTAB + 6, 1, 32).due("22: a space", 22, main);
        set(Sample.STRTAB + 6, 1, 127).due("22: 127", 22, main);
        set(Sample.STRTAB + 6, 1, 200).due("22: 200", 22, main);
        for (int b : new int[] {0x30, 0xF0, 0x13, 0x1F, 0x33}) {
            set(main + 12, 1, b).due("23: " + b, 23, main + 12);
        }
        set(main + 13, 1, 1).due("23: the byte behind", 23, main + 13);
        set(n + 12, 1, 0).due("24: local behind global", 24, n + 12);
        set(ain + 12, 1, 0x11).due("28: no local one", 28, spot(7, 7));
        set(ain + 12, 1, 0x11).entry(7, 7, 1).sound("no local one");
        set(ain + 12, 1, 0x11).set(main + 12, 1, 2).due("24: local behind", 24, main + 12);
        entry(7, 7, 0).due("28: info 0", 28, spot(7, 7));
        entry(7, 7, 3).due("28: info 3", 28, spot(7, 7));
        entry(7, 7, 2 | 1L << 31).due("28: info far", 28, spot(7, 7));
        for (int where : new int[] {5, 6, 7, 8, 9, 10, 16, 256, 65520, 65523, 65535}) {
            set(main + 14, 2, where).due("25: where " + where, 25, main + 14);
        }
        set(main + 14, 2, 3).due("26: in .data, size", 26, main + 8);
        set(main + 4, 4, 1).due("26: both above", 26, main + 8);
        set(main + 4, 4, 7).due("26: the value above", 26, main + 4);
        set(main + 4, 4, (1L << 32) - 1).due("26: the value far above", 26, main + 4);
        set(main + 8, 4, 7).due("26: both above", 26, main + 8);
        set(main + 8, 4, (1L << 32) - 1).due("26: size far above", 26, main + 8);
        set(main + 4, 4, 6).set(main + 8, 4, 0).sound("at the end");
        set(n + 4, 4, 1).due("26: nowhere, value", 26, n + 4);
        set(n + 8, 4, 1).due("26: nowhere, size", 26, n + 8);
        set(n + 4, 4, 1).set(n + 8, 4, 1).due("26: nowhere, both", 26, n + 4);
        set(ain + 14, 2, 0).set(ain + 8, 4, 0).due("26: nowhere, local", 26, ain + 12);
        set(main + 14, 2, 65521).set(main + 4, 4, (1L << 32) - 1).sound("absolute");
        set(main + 14, 2, 65521).set(main + 8, 4, (1L << 31) - 1).sound("absolute, long");
        set(main + 14, 2, 65521).set(main + 8, 4, 1L << 31).due("26: absolute, size", 26, main + 8);
        for (long value : new long[] {0, 3, 128, 1L << 31}) {
            set(main + 14, 2, 65522).set(main + 4, 4, value).due("26: common, value " + value, 26, main + 4);
        }
        for (long size : new long[] {0, 4097, 1L << 31}) {
            set(main + 14, 2, 65522).set(main + 4, 4, 64).set(main + 8, 4, size).due("26: common, size " + size, 26, main + 8);
        }
        set(main + 14, 2, 65522).set(main + 4, 4, 64).set(main + 8, 4, 4096).sound("common");
        set(main + 14, 2, 65522).set(main + 4, 4, 1).set(main + 12, 1, 0x20).due("26: common, weak", 26, main + 12);
        set(n, 4, 5).due("27: main again", 27, n);
        set(n, 4, 8).sound("n elsewhere");
        set(main, 4, 8).due("27: n elsewhere and n", 27, n);
        set(main, 4, 6).sound("the name of a local one");
        set(main, 4, 6).set(n, 4, 1).due("27: the same name elsewhere", 27, n);
        set(n, 4, 5).set(n + 4, 4, 1).due("26 before 27", 26, n + 4);
    }

    private static void relocations() {
        int second = RELA + 12;
        for (int kind : new int[] {0, 2, 15, 18, 20, 22, 29, 32, 36, 40, 42, 46, 50, 52, 255}) {
            set(RELA + 4, 1, kind).due("29: kind " + kind, 29, RELA + 4);
        }
        set(second + 5, 3, 4).due("30: symbol 4 of 4", 30, second + 4);
        set(second + 5, 3, 0xFFFFFF).due("30: symbol far", 30, second + 4);
        set(second + 5, 3, 0).due("30: none", 30, second + 4);
        set(second + 4, 1, 51).due("30: one too many", 30, second + 4);
        set(second + 4, 1, 43).due("30: one too many", 30, second + 4);
        set(second + 4, 4, 51).set(second, 4, 6).sound("51 at the end");
        set(second + 4, 4, 51).set(second, 4, 7).due("32: 51 behind the end", 32, second);
        for (long addend : new long[] {1, 61, 63, 64, 1L << 31, (1L << 32) - 2}) {
            set(second + 4, 4, 43).set(second + 8, 4, addend).due("31: addend " + addend, 31, second + 8);
        }
        set(second + 4, 4, 43).set(second + 8, 4, 2).sound("43 by 2");
        set(second + 4, 4, 43).set(second + 8, 4, 4).due("32: 43 by 4", 32, second);
        set(second + 4, 4, 43).set(second + 8, 4, 62).due("32: 43 by 62", 32, second);
        set(second, 4, 5).due("32: beyond", 32, second);
        set(second, 4, (1L << 32) - 1).due("32: far beyond", 32, second);
        set(RELA, 4, 2).sound("up to the end");
        set(RELA, 4, 3).due("32: beyond", 32, RELA);
        Model.Obj o = object(8, 8, 8);
        o.syms.add(new Model.Sym("a", 4, 0, 0, 1, 0));
        for (int s = 0; s < 3; s++) {
            o.rels.add(new Model.Rel(s, 0, 1, 0, 0));
        }
        // .rela.text from 76 on, .rela.rodata from 88, .rela.data from 100
        for (int kind : new int[] {16, 17, 19, 23, 28, 43, 44, 45, 51}) {
            new Spoiled(written(o)).set(92, 1, kind).due("29: not in .rodata: " + kind, 29, 92);
            new Spoiled(written(o)).set(104, 1, kind).due("29: not in .data: " + kind, 29, 104);
        }
        new Spoiled(written(o)).set(104, 1, 39).sound("39 in .data");
        new Spoiled(written(o)).set(100, 1, 5).due("32: beyond .data", 32, 100);
        new Spoiled(written(o)).set(100, 1, 5).set(88, 1, 5).due("32: .rodata first", 32, 88);
    }

    private static void starts() {
        int first = Sample.STARTS;
        set(first + 2, 2, 3).due("33: odd", 33, first + 2);
        set(first + 2, 2, 0).due("33: not above", 33, first + 2);
        set(first, 2, 4).due("33: not above", 33, first + 2);
        set(first + 2, 2, 6).due("33: not in .text", 33, first + 2);
        set(first + 2, 2, 65534).due("33: far away", 33, first + 2);
        set(first + 2, 2, 2).sound("short at 2");
        set(36, 4, 0).due("34: flags 0", 34, 36);
        set(56, 1, 3).due("34: flags 1", 34, 36);
        set(56, 1, 3).set(36, 4, 0).sound("none is short");
        new Spoiled(written(object(4, 0, 0))).set(36, 4, 1).due("34: no start", 34, 36);
    }

    private static void theFirstFaultCounts() {
        set(36, 4, 0).set(Sample.STARTS, 2, 1).due("33 before 34", 33, Sample.STARTS);
        set(RELA + 4, 1, 0).set(SYMTAB, 1, 1).due("21 before 29", 21, SYMTAB);
        set(RELA, 4, 9).entry(7, 7, 9).due("28 before 32", 28, spot(7, 7));
        entry(9, 8, 3).entry(1, 8, 3).due("13 of entry 1 first", 13, spot(1, 8));
        entry(2, 1, 0).entry(1, 8, 3).due("13 of entry 1 before 11 of entry 2", 13, spot(1, 8));
        entry(1, 1, 0).entry(1, 4, 0).due("11 before 12", 11, spot(1, 1));
        entry(1, 4, 1).due("12 before 13", 12, spot(1, 4));
        entry(1, 2, 0).entry(9, 0, 0).due("16 of the last before 17 of the first", 16, spot(9, 0));
        entry(1, 0, 0).set(50, 2, 1).due("15 before 16", 15, spot(1, 1));
        set(50, 2, 8).due("16: .strtab has no such name", 16, spot(1, 0));
        entry(4, 5, 5000).entry(8, 5, 0).due("19 before 20", 19, spot(4, 5));
    }
}
