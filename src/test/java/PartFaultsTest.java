/** READING, faults 21 to 34, sentence by sentence: symbols, relocations and STARTS. */
public final class PartFaultsTest {
    private static final Check C = new Check();
    private static final long MOST = (1L << 32) - 1;

    // the sample's symbols, of which the first is local, the second global and in .text, the third weak and nowhere
    private static final int AIN = Sample.SYMTAB + 16;
    private static final int MAIN = Sample.SYMTAB + 32;
    private static final int N = Sample.SYMTAB + 48;
    // its relocations, of kinds 17 and 44
    private static final int FIRST = Sample.RELA;
    private static final int SECOND = Sample.RELA + 12;
    private static final int STARTS = Sample.STARTS;

    // in a symbol
    private static final int VALUE = 4;
    private static final int SIZE = 8;
    private static final int BIND = 12;
    private static final int BEHIND = 13;
    private static final int WHERE = 14;

    private static final int ABSOLUTE = 65521;
    private static final int COMMON = 65522;

    public static void main(String[] args) {
        fault21();
        fault22Beyond();
        fault22NoName();
        fault23BindOrType();
        fault23TheByteBehind();
        fault24();
        fault25();
        fault26Nowhere();
        fault26Common();
        fault26InASection();
        fault26InEachSection();
        fault26Absolute();
        fault26InThisOrder();
        fault27();
        symbolsOneByOne();
        fault28();
        fault29NoKind();
        fault29NotInThisSection();
        fault30NotBelow();
        fault30With43And51();
        fault30WithOthers();
        fault31();
        fault32();
        fault32Widths();
        relocationsOneByOne();
        fault33Even();
        fault33Above();
        fault33InText();
        fault34();
        noMoreThanTheEntriesTell();
        C.end();
    }

    private static Spoiled sample() {
        return new Spoiled(C, Sample.file());
    }

    private static Spoiled set(int at, int bytes, long number) {
        return sample().set(at, bytes, number);
    }

    private static int spot(int e, int number) {
        return Sample.TABLE + 40 * e + 4 * number;
    }

    private static Spoiled of(Model.Obj o) {
        return new Spoiled(C, Model.written(o));
    }

    private static Model.Obj object(int text, int rodata, int data, int bss) {
        Model.Obj o = new Model.Obj();
        o.bytes = new byte[][] {new byte[text], new byte[rodata], new byte[data]};
        o.bss = bss;
        return o;
    }

    // ---- the symbols

    private static void fault21() {
        C.sentence("Of the symbols, one by one (16 bytes): 21 the first has a byte that isn't 0.");
        for (int k = 0; k < 16; k++) {
            for (int b : new int[] {1, 16, 128, 255}) {
                set(Sample.SYMTAB + k, 1, b).due("byte " + k + " is " + b, 21, Sample.SYMTAB + k);
            }
            set(Sample.SYMTAB + k, 1, 1).set(Sample.SYMTAB + 15, 1, 1).due("the first of two", 21, Sample.SYMTAB + k);
        }
        of(object(0, 0, 0, 0)).set(52 + 14, 2, ABSOLUTE).due("it alone", 21, 52 + 14);
    }

    private static void fault22Beyond() {
        C.sentence("Of the others: 22 its name's place is beyond .strtab (place of the number)");
        for (int row : new int[] {AIN, MAIN, N}) {
            for (long at : new long[] {10, 11, 12, 244, 8192, 1L << 31, MOST - 159, MOST - 158, MOST}) {
                set(row, 4, at).due("name at " + at, 22, row);
            }
        }
    }

    private static Spoiled named(String text, int place) {
        Model.Obj o = object(0, 0, 0, 0);
        o.syms.add(new Model.Sym(text, 4, 0, 0, 0, 0));
        return of(o).set(68, 4, place);
    }

    private static void fault22NoName() {
        C.sentence("22 .. or the name up to the next 0 is none");
        for (int at : new int[] {0, 4, 9}) {
            set(MAIN, 4, at).due("no character at " + at, 22, MAIN);
        }
        named("0123456789abcdef", 1).sound("16 characters");
        named("0123456789abcdefg", 1).due("17 characters", 22, 68);
        named("0123456789abcdefg", 2).sound("16 of 17 characters");
        named("0123456789abcdefghijklmnopqrstuvw", 1).due("33 characters", 22, 68);
        named("0123456789abcdefghijklmnopqrstuvw", 33).sound("the last of 33 characters");
        for (int c = 1; c < 256; c++) {
            boolean may = c >= 33 && c <= 126;
            named("x" + (char) c, 1).due("character " + c, may ? 0 : 22, may ? -1 : 68);
        }
        named(" x", 1).due("32 at first", 22, 68);
        named("0123456789abcde\177", 1).due("127 at last", 22, 68);
        Use x = new Use().load(named("0123456789abcdefg", 3).row());
        C.due("read", x.read(), 0);
        C.due("how long", x.symbolAt(0, 5), 15);
        C.due("the first character", x.symbolAt(0, 6), '2');
        C.due("the last character", x.symbolAt(0, 20), 'g');
    }

    private static void fault23BindOrType() {
        C.sentence("23 bind or type is none");
        Model.Obj o = object(0, 0, 0, 0);
        o.syms.add(new Model.Sym("a", 4, 0, 0, 1, 0));
        for (int b = 0; b < 256; b++) {
            int bind = b >> 4;
            Spoiled s = of(o).set(68 + BIND, 1, b).entry(5, 7, bind == 0 ? 2 : 1);
            boolean may = bind <= 2 && (b & 15) <= 2;
            s.due("bind and type " + b, may ? 0 : 23, may ? -1 : 68 + BIND);
        }
    }

    private static void fault23TheByteBehind() {
        C.sentence("23 .. or the byte behind it isn't 0");
        for (int row : new int[] {AIN, MAIN, N}) {
            for (int b : new int[] {1, 2, 128, 255}) {
                set(row + BEHIND, 1, b).due("the byte behind is " + b, 23, row + BEHIND);
            }
            set(row + BEHIND, 1, 1).set(row + BIND, 1, 0x33).due("both", 23, row + BIND);
        }
    }

    private static void fault24() {
        C.sentence("24 it is local behind one that isn't (place of the byte with the bind)");
        set(N + BIND, 1, 0).due("local behind global", 24, N + BIND);
        set(N + BIND, 1, 1).due("local behind global, of type 1", 24, N + BIND);
        set(AIN + BIND, 1, 0x20).set(MAIN + BIND, 1, 0).due("local behind weak", 24, MAIN + BIND);
        set(AIN + BIND, 1, 0x10).set(MAIN + BIND, 1, 0).set(N + BIND, 1, 0).due("the first of two", 24, MAIN + BIND);
        set(MAIN + BIND, 1, 0).due("local behind local", 28, spot(7, 7));
        set(MAIN + BIND, 1, 0).entry(7, 7, 3).sound("local behind local");
        set(AIN + BIND, 1, 0x10).entry(7, 7, 1).sound("no local one");
    }

    private static void fault25() {
        C.sentence("25 where: none of those numbers, or not the entry of a section.");
        for (int where : new int[] {5, 6, 7, 8, 9, 10, 11, 16, 255, 256, 257, 32768, 65280, 65520, 65523, 65535}) {
            set(MAIN + WHERE, 2, where).due("where " + where, 25, MAIN + WHERE);
            set(AIN + WHERE, 2, where).due("where " + where + " of a local one", 25, AIN + WHERE);
        }
        set(MAIN + WHERE, 2, 1).sound("the entry of .text");
        set(MAIN + SIZE, 4, 0).set(MAIN + WHERE, 2, 2).sound("the entry of .rodata");
        set(MAIN + SIZE, 4, 0).set(MAIN + WHERE, 2, 3).sound("the entry of .data");
        set(MAIN + SIZE, 4, 0).set(MAIN + WHERE, 2, 4).sound("the entry of .bss");
        set(MAIN + WHERE, 2, ABSOLUTE).sound("absolute");
        set(N + WHERE, 2, 0).sound("nowhere");
        set(MAIN + VALUE, 4, 1).set(MAIN + WHERE, 2, COMMON).sound("common");
        // entries that are changed about: 1 is .rodata's, 2 .text's
        Spoiled s = sample().entry(1, 0, 7).entry(2, 0, 1).entry(1, 2, 2).entry(2, 2, 6).entry(6, 7, 2);
        s.entry(6, 5, 0).entry(5, 5, 0).set(36, 4, 0).set(AIN + WHERE, 2, 1).set(MAIN + WHERE, 2, 2).set(MAIN + SIZE, 4, 2);
        Use x = new Use().load(s.row());
        C.due("read", x.read(), 0);
        C.due("where of entry 1", x.symbolAt(0, 0), 1);
        C.due("where of entry 2", x.symbolAt(1, 0), 0);
    }

    private static void fault26Nowhere() {
        C.sentence("26 its value, its size, or the bind, .. isn't as said for SYMBOLS (nowhere)");
        for (long number : new long[] {1, 256, 1L << 31, MOST}) {
            set(N + VALUE, 4, number).due("value " + number, 26, N + VALUE);
            set(N + SIZE, 4, number).due("size " + number, 26, N + SIZE);
        }
        set(N + BIND, 1, 0x10).sound("global");
        set(AIN + WHERE, 2, 0).set(AIN + SIZE, 4, 0).due("local", 26, AIN + BIND);
    }

    private static Spoiled common(long value, long size, int bind) {
        return set(N + WHERE, 2, COMMON).set(N + VALUE, 4, value).set(N + SIZE, 4, size).set(N + BIND, 1, 16 * bind);
    }

    private static void fault26Common() {
        C.sentence("26 .. isn't as said for SYMBOLS (common)");
        for (int power = 0; power <= 6; power++) {
            common(1 << power, 1, 1).sound("value 2 to the " + power);
        }
        for (long value : new long[] {0, 3, 5, 63, 65, 128, 256, 1 << 16 | 1, 1L << 31, MOST}) {
            common(value, 1, 1).due("value " + value, 26, N + VALUE);
        }
        common(64, 4096, 1).sound("size 4096");
        for (long size : new long[] {0, 4097, 65536, 1L << 31, MOST}) {
            common(1, size, 1).due("size " + size, 26, N + SIZE);
        }
        common(1, 1, 2).due("weak", 26, N + BIND);
        set(AIN + WHERE, 2, COMMON).set(AIN + VALUE, 4, 1).due("local", 26, AIN + BIND);
    }

    private static void fault26InASection() {
        C.sentence("26 .. (in a section: the value is above the section's size; both together are; a size of 2^31 and more can't be, too)");
        // MAIN is in .text, which has six bytes
        for (int value = 0; value <= 7; value++) {
            for (int size = 0; size <= 7; size++) {
                int place = value > 6 ? MAIN + VALUE : value + size > 6 ? MAIN + SIZE : -1;
                set(MAIN + VALUE, 4, value).set(MAIN + SIZE, 4, size).due(value + " and " + size, place < 0 ? 0 : 26, place);
            }
        }
        for (long far : new long[] {256, 65536, (1L << 31) - 1, 1L << 31, MOST}) {
            set(MAIN + VALUE, 4, far).due("value " + far, 26, MAIN + VALUE);
            set(MAIN + VALUE, 4, far).set(MAIN + SIZE, 4, MOST + 1 - far).due("value " + far + ", wrapped around", 26, MAIN + VALUE);
            set(MAIN + SIZE, 4, far).due("size " + far, 26, MAIN + SIZE);
        }
        set(MAIN + VALUE, 4, 1).set(MAIN + SIZE, 4, MOST).due("both together wrap around", 26, MAIN + SIZE);
        set(MAIN + VALUE, 4, 6).set(MAIN + SIZE, 4, MOST - 5).due("both together wrap around to 0", 26, MAIN + SIZE);
    }

    private static void fault26InEachSection() {
        C.sentence("26 .. (in a section: the value is above the section's size; ..) (of each section)");
        int[] sizes = {3, 5, 7, 4096};
        for (int s = 0; s < 4; s++) {
            Model.Obj o = object(3, 5, 7, 4096);
            o.syms.add(new Model.Sym("a", s, sizes[s], 0, 0, 0));
            o.syms.add(new Model.Sym("b", s, 0, sizes[s], 0, 0));
            // 52 + 3 + 5 + 7 is 67: .symtab from 68 on
            int row = 68 + 16;
            of(o).sound("at the end, and all of it");
            of(o).set(row + VALUE, 4, sizes[s] + 1).due("the value above", 26, row + VALUE);
            of(o).set(row + SIZE, 4, 1).due("both together above", 26, row + SIZE);
            of(o).set(row + 16 + SIZE, 4, sizes[s] + 1).due("the size above", 26, row + 16 + SIZE);
            of(o).set(row + 16 + VALUE, 4, 1).due("both together above", 26, row + 16 + SIZE);
        }
    }

    private static void fault26Absolute() {
        C.sentence("26 .. a size of 2^31 and more can't be, too");
        for (long value : new long[] {0, 1, (1L << 31) - 1, 1L << 31, MOST}) {
            set(MAIN + WHERE, 2, ABSOLUTE).set(MAIN + VALUE, 4, value).sound("value " + value);
        }
        set(MAIN + WHERE, 2, ABSOLUTE).set(MAIN + SIZE, 4, (1L << 31) - 1).sound("size 2^31 - 1");
        set(MAIN + WHERE, 2, ABSOLUTE).set(MAIN + SIZE, 4, 1L << 31).due("size 2^31", 26, MAIN + SIZE);
        set(MAIN + WHERE, 2, ABSOLUTE).set(MAIN + SIZE, 4, MOST).due("size 2^32 - 1", 26, MAIN + SIZE);
        for (int bind = 0; bind <= 2; bind++) {
            set(AIN + WHERE, 2, ABSOLUTE).set(AIN + BIND, 1, 16 * bind).entry(7, 7, bind == 0 ? 2 : 1).sound("bind " + bind);
        }
        Use x = new Use().load(set(MAIN + WHERE, 2, ABSOLUTE).set(MAIN + VALUE, 4, MOST).set(MAIN + SIZE, 4, (1L << 31) - 1).row());
        C.due("read", x.read(), 0);
        C.due("value", x.symbolAt(1, 1), -1);
        C.due("size", x.symbolAt(1, 2), Integer.MAX_VALUE);
    }

    private static void fault26InThisOrder() {
        C.sentence("26 its value, its size, or the bind, the first of these in this order");
        set(N + VALUE, 4, 1).set(N + SIZE, 4, 1).due("nowhere: value and size", 26, N + VALUE);
        common(3, 0, 2).due("common: all three", 26, N + VALUE);
        common(3, 1, 2).due("common: value and bind", 26, N + VALUE);
        common(1, 0, 2).due("common: size and bind", 26, N + SIZE);
        set(AIN + WHERE, 2, 0).set(AIN + VALUE, 4, 1).due("nowhere: all three", 26, AIN + VALUE);
        set(AIN + WHERE, 2, 0).due("nowhere: size and bind", 26, AIN + SIZE);
        set(MAIN + VALUE, 4, 7).set(MAIN + SIZE, 4, MOST).due("in a section: value and size", 26, MAIN + VALUE);
    }

    private static void fault27() {
        C.sentence("27 it isn't local, and one before has its name, and isn't (place of the name's number).");
        set(N, 4, 5).due("weak and global", 27, N);
        set(N, 4, 5).set(N + BIND, 1, 0x10).due("global and global", 27, N);
        set(N, 4, 6).set(MAIN, 4, 1).due("the same name at another place", 27, N);
        set(MAIN, 4, 8).due("the same name at another place", 27, N);
        set(MAIN, 4, 6).sound("the name of a local one");
        set(N, 4, 1).sound("the name of a local one");
        set(N, 4, 6).sound("the end of another name");
        Model.Obj o = object(0, 0, 0, 0);
        o.syms.add(new Model.Sym("l", 4, 0, 0, 0, 0));
        o.syms.add(new Model.Sym("l", 4, 0, 0, 0, 0));
        of(o).sound("two local ones");
        String[] names = {"0123456789abcdef", "l", "b", "0123456789abcdeg", "123456789abcdef", "c"};
        for (String name : names) {
            o.syms.add(new Model.Sym(name, 4, 0, 0, 1 + o.syms.size() % 2, 0));
        }
        of(o).sound("names that differ");
        // .symtab from 52 on; of the rows 3 to 8, which aren't local, any two
        for (int i = 3; i <= 8; i++) {
            for (int j = i + 1; j <= 8; j++) {
                Spoiled s = of(o);
                s.set(52 + 16 * j, 4, s.get(52 + 16 * i)).due("rows " + i + " and " + j, 27, 52 + 16 * j);
            }
        }
    }

    private static void symbolsOneByOne() {
        C.sentence("Of the symbols, one by one");
        set(AIN + SIZE, 4, 9).set(MAIN, 4, 0).due("26 of the first, 22 of the second", 26, AIN + SIZE);
        set(N, 4, 0).set(MAIN + WHERE, 2, 99).due("25 of the second, 22 of the third", 25, MAIN + WHERE);
        int[][] faults = {{22, 0, 4, 0, 0}, {23, BIND, 1, 0x13, BIND}, {25, WHERE, 2, 99, WHERE}, {26, VALUE, 4, 7, VALUE}};
        for (int i = 0; i < faults.length; i++) {
            for (int j = 0; j < faults.length; j++) {
                int[] f = faults[i];
                int[] g = faults[j];
                set(AIN + f[1], f[2], f[3]).set(MAIN + g[1], g[2], g[3]).due(f[0] + " and " + g[0], f[0], AIN + f[4]);
                if (i < j) {
                    set(MAIN + f[1], f[2], f[3]).set(MAIN + g[1], g[2], g[3]).due(f[0] + " and " + g[0], f[0], MAIN + f[4]);
                }
            }
        }
        set(N + BIND, 1, 0).set(N + WHERE, 2, 99).due("24 before 25", 24, N + BIND);
        set(N + BIND, 1, 0).set(N + BEHIND, 1, 1).due("23 before 24", 23, N + BEHIND);
        set(N, 4, 5).set(N + VALUE, 4, 1).due("26 before 27", 26, N + VALUE);
    }

    private static void fault28() {
        C.sentence("Then 28 the info of .symtab is another one than in writing (its place).");
        for (long info : new long[] {0, 1, 3, 4, 256 + 2, 1L << 31 | 2, MOST}) {
            sample().entry(7, 7, info).due("info " + info, 28, spot(7, 7));
        }
        sample().entry(7, 7, 2).sound("info 2");
        Spoiled none = of(object(0, 0, 0, 0));
        none.entry(5, 7, 0).due("info 0 of none", 28, none.spot(5, 7));
        none.entry(5, 7, 2).due("info 2 of none", 28, none.spot(5, 7));
        none.entry(5, 7, 1).sound("info 1 of none");
        Model.Obj o = object(0, 0, 0, 0);
        for (int k = 0; k < 100; k++) {
            o.syms.add(new Model.Sym("a", 4, 0, 0, 0, 0));
        }
        Spoiled all = of(o);
        all.entry(5, 7, 100).due("info 100 of 100 local ones", 28, all.spot(5, 7));
        all.entry(5, 7, 101).sound("info 101 of 100 local ones");
        sample().entry(7, 7, 9).set(N + VALUE, 4, 1).due("behind the last symbol", 26, N + VALUE);
    }

    // ---- the relocations

    private static Model.Obj withRelocations() {
        Model.Obj o = object(8, 8, 8, 0);
        o.syms.add(new Model.Sym("a", 4, 0, 0, 1, 0));
        for (int s = 0; s < 3; s++) {
            o.rels.add(new Model.Rel(s, 0, 1, 0, 0));
        }
        return o;
    }

    private static final int[] ANYWHERE = {1, 33, 34, 35, 37, 38, 39};
    private static final int[] TEXT_ALONE = {16, 17, 19, 23, 24, 25, 26, 27, 28, 44, 45};

    private static boolean has(int[] row, int wanted) {
        for (int k : row) {
            if (k == wanted) {
                return true;
            }
        }
        return false;
    }

    private static void fault29NoKind() {
        C.sentence("Of the relocations, of .text, .rodata, .data, one by one: 29 a kind that is none (place of the number)");
        for (int kind = 0; kind < 256; kind++) {
            boolean one = has(ANYWHERE, kind) || has(TEXT_ALONE, kind);
            boolean without = kind == 43 || kind == 51;
            // .rela.text from 76 on, .rela.rodata from 88, .rela.data from 100
            Spoiled s = of(withRelocations()).set(80, 4, 256 + kind);
            s.due("kind " + kind, one ? 0 : without ? 30 : 29, one ? -1 : 80);
            s.set(80, 4, kind).due("kind " + kind + " without", without ? 0 : one ? 30 : 29, without ? -1 : 80);
        }
    }

    private static void fault29NotInThisSection() {
        C.sentence("29 .. or not in this section.");
        for (int kind = 0; kind < 256; kind++) {
            boolean may = has(ANYWHERE, kind);
            of(withRelocations()).set(92, 1, kind).due("kind " + kind + " in .rodata", may ? 0 : 29, may ? -1 : 92);
            of(withRelocations()).set(104, 1, kind).due("kind " + kind + " in .data", may ? 0 : 29, may ? -1 : 104);
        }
        of(withRelocations()).set(92, 4, 51).due("51 in .rodata, without", 29, 92);
        of(withRelocations()).set(104, 4, 43).due("43 in .data, without", 29, 104);
    }

    private static void fault30NotBelow() {
        C.sentence("30 the symbol's number is not below how many there are (place of the number, as for 29)");
        for (int number = 1; number <= 3; number++) {
            Use x = new Use().load(set(SECOND + 5, 3, number).row());
            C.due("symbol " + number + " of 4", x.read(), 0);
            C.due("the symbol", x.relocationAt(1, 3), number - 1);
        }
        for (long number : new long[] {4, 5, 100, 101, 256, 65536, 0x800000, 0xFFFFFF}) {
            set(SECOND + 5, 3, number).due("symbol " + number + " of 4", 30, SECOND + 4);
            set(FIRST + 5, 3, number).due("symbol " + number + " of 4", 30, FIRST + 4);
        }
        Model.Obj o = object(8, 0, 0, 0);
        for (int k = 0; k < 100; k++) {
            o.syms.add(new Model.Sym("a", 4, 0, 0, 0, 0));
        }
        o.rels.add(new Model.Rel(0, 0, 1, 99, 0));
        of(o).sound("symbol 100 of 101");
        of(o).set(60 + 5, 3, 101).due("symbol 101 of 101", 30, 64);
        // without symbols there is the first 16 bytes' alone
        Model.Obj none = object(8, 0, 0, 0);
        none.rels.add(new Model.Rel(0, 0, 51, -1, 0));
        of(none).sound("51 without symbols");
        of(none).set(64, 4, 256 + 1).due("symbol 1 of 1", 30, 64);
    }

    private static void fault30With43And51() {
        C.sentence("30 .. or is there (not 0) with 43 and 51");
        for (int kind : new int[] {43, 51}) {
            for (int number : new int[] {1, 2, 3, 4, 0xFFFFFF}) {
                set(SECOND + 4, 4, 256L * number + kind).set(SECOND + 8, 4, 2).due(kind + " with " + number, 30, SECOND + 4);
            }
            Use x = new Use().load(set(SECOND + 4, 4, kind).set(SECOND + 8, 4, 2).row());
            C.due("read", x.read(), 0);
            C.due("the symbol", x.relocationAt(1, 3), -1);
            C.due("the kind", x.relocationAt(1, 2), kind);
        }
    }

    private static void fault30WithOthers() {
        C.sentence("30 .. or 0 with others");
        for (int[] row : new int[][] {ANYWHERE, TEXT_ALONE}) {
            for (int kind : row) {
                of(withRelocations()).set(80, 4, kind).due(kind + " without", 30, 80);
            }
        }
        for (int kind : ANYWHERE) {
            of(withRelocations()).set(92, 4, kind).due(kind + " without, in .rodata", 30, 92);
            of(withRelocations()).set(104, 4, kind).due(kind + " without, in .data", 30, 104);
        }
    }

    private static void fault31() {
        C.sentence("31 of kind 43 an addend that can't be (its place).");
        Model.Obj o = object(64, 0, 0, 0);
        o.rels.add(new Model.Rel(0, 0, 43, -1, 0));
        // .rela.text from 116 on
        for (int addend = 0; addend <= 70; addend++) {
            boolean may = addend <= 62 && addend % 2 == 0;
            of(o).set(124, 4, addend).due("43 by " + addend, may ? 0 : 31, may ? -1 : 124);
        }
        for (long addend : new long[] {128, 256, 256 + 2, 65536, 1L << 31, MOST - 1, MOST}) {
            of(o).set(124, 4, addend).due("43 by " + addend, 31, 124);
        }
        of(o).set(120, 1, 51).set(124, 4, MOST).sound("51 by any");
        of(o).set(124, 4, 1).set(116, 4, 99).due("31 before 32", 31, 124);
    }

    private static void fault32() {
        C.sentence("32 its place (the number's place).");
        // .text has 6 bytes, the first relocation 4, the second 2
        for (int place = 0; place <= 8; place++) {
            set(FIRST, 4, place).due("4 bytes at " + place, place <= 2 ? 0 : 32, place <= 2 ? -1 : FIRST);
            set(SECOND, 4, place).due("2 bytes at " + place, place <= 4 ? 0 : 32, place <= 4 ? -1 : SECOND);
            set(SECOND, 4, place).set(SECOND + 4, 4, 51).due("none at " + place, place <= 6 ? 0 : 32, place <= 6 ? -1 : SECOND);
            Spoiled by4 = set(SECOND, 4, place).set(SECOND + 4, 4, 43).set(SECOND + 8, 4, 4);
            by4.due("43 by 4 at " + place, place <= 2 ? 0 : 32, place <= 2 ? -1 : SECOND);
        }
        for (long far : new long[] {256, 65536, (1L << 31) - 1, 1L << 31, MOST - 4, MOST - 3, MOST - 2, MOST}) {
            set(FIRST, 4, far).due("at " + far, 32, FIRST);
            set(SECOND, 4, far).set(SECOND + 4, 4, 51).due("none at " + far, 32, SECOND);
        }
        for (int s = 0; s < 3; s++) {
            int row = 76 + 12 * s;
            of(withRelocations()).set(row, 4, 4).sound("at 4 of 8");
            of(withRelocations()).set(row, 4, 5).due("at 5 of 8", 32, row);
        }
    }

    private static void fault32Widths() {
        C.sentence("32 its place (by the kinds' WIDTH)");
        int[][] widths = {{51}, {33, 37}, {34, 38, 44, 45}, {}, {1, 16, 17, 23, 24, 25, 26, 27, 28, 35, 39}, {}, {}, {}, {19}};
        for (int width = 0; width < widths.length; width++) {
            for (int kind : widths[width]) {
                Spoiled s = of(withRelocations()).set(80, 4, kind == 51 ? 51 : 256 + kind);
                s.set(76, 4, 8 - width).sound(kind + " up to the end");
                s.set(76, 4, 9 - width).due(kind + " beyond", 32, 76);
            }
        }
    }

    private static void relocationsOneByOne() {
        C.sentence("Of the relocations, of .text, .rodata, .data, one by one");
        int[][] faults = {{29, 4, 0, 4}, {30, 5, 9, 4}, {32, 0, 9, 0}};
        for (int i = 0; i < faults.length; i++) {
            for (int j = 0; j < faults.length; j++) {
                int[] f = faults[i];
                int[] g = faults[j];
                set(FIRST + f[1], 1, f[2]).set(SECOND + g[1], 1, g[2]).due(f[0] + " and " + g[0], f[0], FIRST + f[3]);
                for (int s = 0; s < 2; s++) {
                    Spoiled p = of(withRelocations()).set(76 + 12 * s + f[1], 1, f[2]).set(88 + 12 * s + g[1], 1, g[2]);
                    p.due(f[0] + " and " + g[0] + " of the next section", f[0], 76 + 12 * s + f[3]);
                }
                if (i < j) {
                    set(SECOND + f[1], 1, f[2]).set(SECOND + g[1], 1, g[2]).due(f[0] + " and " + g[0] + " of one", f[0], SECOND + f[3]);
                }
            }
        }
        // by sections, not by entries: .rela.text's and .rela.data's entries are changed about
        Model.Obj o = withRelocations();
        byte[] file = Model.written(o);
        Spoiled s = new Spoiled(C, file);
        byte[] data = java.util.Arrays.copyOfRange(file, s.spot(7, 0), s.spot(8, 0));
        System.arraycopy(file, s.spot(5, 0), file, s.spot(7, 0), 40);
        System.arraycopy(data, 0, file, s.spot(5, 0), 40);
        s.sound("changed about");
        s.set(76, 4, 9).set(100, 4, 9).due("32 of both", 32, 76);
    }

    // ---- the STARTS

    private static void fault33Even() {
        C.sentence("Of the STARTS: 33 one isn't even (its place)");
        set(STARTS, 2, 1).due("1 and 4", 33, STARTS);
        set(STARTS + 2, 2, 3).due("0 and 3", 33, STARTS + 2);
        set(STARTS + 2, 2, 5).due("0 and 5", 33, STARTS + 2);
        set(STARTS + 2, 2, 2).sound("0 and 2");
    }

    private static void fault33Above() {
        C.sentence("33 .. or isn't above the one before");
        set(STARTS + 2, 2, 0).due("0 and 0", 33, STARTS + 2);
        set(STARTS, 2, 4).due("4 and 4", 33, STARTS + 2);
        set(STARTS, 2, 4).set(STARTS + 2, 2, 2).due("4 and 2", 33, STARTS + 2);
        set(STARTS, 2, 2).sound("2 and 4");
    }

    private static void fault33InText() {
        C.sentence("33 .. or is not in .text");
        set(STARTS + 2, 2, 6).due("at the end", 33, STARTS + 2);
        set(STARTS, 2, 6).due("the first at the end", 33, STARTS);
        for (int far : new int[] {8, 256, 2046, 2048, 32768, 65534}) {
            set(STARTS + 2, 2, far).due("at " + far, 33, STARTS + 2);
        }
        Model.Obj o = object(2047, 0, 0, 0);
        o.starts.add(2046);
        of(o).sound("2046 of 2047");
        of(o).entry(1, 5, 2046).due("2046 of 2046", 33, 2100);
    }

    private static void fault34() {
        C.sentence("34 the flags of the header are 0, and a START is SHORT, or 1 and none is (place 36).");
        set(36, 4, 0).due("0 and one is SHORT", 34, 36);
        // the STARTS are 0 and 4, the bytes there 0x13 and 1
        set(56, 1, 3).due("1 and none is SHORT", 34, 36);
        set(56, 1, 3).set(36, 4, 0).sound("0 and none is SHORT");
        for (int b : new int[] {0, 1, 2, 4, 253, 254}) {
            set(56, 1, b).sound("1 and " + b + " is SHORT");
            set(52, 1, b).set(56, 1, 255).sound("1 and the first, " + b + ", is SHORT");
            set(52, 1, b).set(56, 1, 255).set(36, 4, 0).due("0 and the first, " + b + ", is SHORT", 34, 36);
        }
        of(object(4, 0, 0, 0)).sound("0 and no START");
        of(object(4, 0, 0, 0)).set(36, 4, 1).due("1 and no START", 34, 36);
        of(object(0, 0, 0, 0)).set(36, 4, 1).due("1 and no .text", 34, 36);
        set(36, 4, 0).set(STARTS + 2, 2, 1).due("33 before 34", 33, STARTS + 2);
    }

    private static void noMoreThanTheEntriesTell() {
        C.sentence("Without a FAULT the READ object is what the file tells (and what stands behind a part is not of it)");
        // the third symbol, the second relocation and the second START stand in the file, but no entry has them
        Use x = new Use().load(sample().entry(7, 5, 48).entry(6, 5, 0).row());
        C.due("read of two symbols", x.read(), 0);
        C.due("count 1", x.count(1), 2);
        C.due("symbolAt 2", x.symbolAt(2, 5), -1);
        x.load(sample().entry(6, 5, 12).row());
        C.due("read of one relocation", x.read(), 0);
        C.due("count 2", x.count(2), 1);
        C.due("relocationAt 1", x.relocationAt(1, 2), -1);
        x.load(set(52, 1, 0).entry(5, 5, 2).row());
        C.due("read of one START", x.read(), 0);
        C.due("count 0", x.count(0), 1);
        C.due("startAt 1", x.startAt(1), -1);
        C.due("count 3", x.count(3), 1);
        x.load(set(54, 1, 7).entry(1, 5, 58 - 52 + 2).row());
        C.due("read of two bytes more", x.read(), 0);
        C.due("section 0 0", x.section(0, 0), 8);
        C.due("at 0 7", x.at(0, 7), 0);
    }
}
