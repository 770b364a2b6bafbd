/** WRITING with its ENTRIES, STRINGS and HEADER, sentence by sentence, as bytes and numbers of the FILE. */
public final class WritingTest {
    private static final Check C = new Check();

    // the numbers of an entry
    private static final int NAME = 0;
    private static final int SORT = 1;
    private static final int BEGIN = 4;
    private static final int BYTES = 5;
    private static final int LINK = 6;
    private static final int INFO = 7;
    private static final int ALIGNMENT = 8;
    private static final int UNIT = 9;

    public static void main(String[] args) {
        wholeSample();
        wholeFileOfAllParts();
        partsAtTheirAlignments();
        bytesBetweenAreZero();
        emptySections();
        starts();
        relocationsInTheirOrder();
        symbolsLocalFirst();
        stringsAndTableAligned();
        entriesThatAreThere();
        entryZero();
        entryOfBss();
        entryLinksAndInfos();
        entryInfoOfSymtab();
        stringsBeginWithZero();
        stringsAtTheLeastPlace();
        stringsOfTheMostNames();
        stringsAsTheyAreWritten();
        stringsOfEntries();
        symbolNumbers();
        symbolSectionsEntries();
        relocationNumbers();
        headerMark();
        headerNumbers();
        headerFlags();
        C.end();
    }

    private static Use written(Use x) {
        C.yes("write", x.write() > 0);
        return x;
    }

    private static void bytesFrom(Use x, int at, int... due) {
        for (int k = 0; k < due.length; k++) {
            C.due("byteAt " + (at + k), x.byteAt(at + k), due[k]);
        }
    }

    private static int up(int end, int alignment) {
        return (end + alignment - 1) / alignment * alignment;
    }

    // ---- the parts

    private static void wholeSample() {
        C.sentence("WRITING. The file's parts, in this order");
        Use.sameFile(C, x -> {
            Sample.make(x);
            x.write();
        }, Sample.file());
    }

    private static void makeAll(Use x) {
        x.put(0, 5, 0x0301030100000000L);
        x.put(1, 3, 0x1112130000000000L);
        x.put(2, 4, 0x2122232400000000L);
        x.bss(300);
        x.align(1, 2);
        x.align(2, 1);
        x.align(3, 6);
        x.start(0);
        x.start(2);
        x.letters("g").symbol(2, 1, 3, 1, 1);
        x.letters("l").symbol(3, 300, 0, 0, 0);
        x.relocation(2, 0, 1, 0, 9);
        x.relocation(1, 1, 34, 1, 8);
        x.relocation(0, 3, 45, 0, -1);
        x.relocation(2, 3, 37, 1, 7);
    }

    private static void wholeFileOfAllParts() {
        C.sentence("the HEADER (52 bytes); .text, .rodata, .data (with their alignments); .starts ..; .rela.text, .rela.rodata, .rela.data ..; .symtab ..; .strtab (1); .shstrtab (1); the TABLE");
        Model.Out out = new Model.Out();
        out.u1(127).u1(69).u1(76).u1(70).u1(1).u1(1).u1(1).all(new byte[9]);
        out.u2(1).u2(243).u4(1).u4(0).u4(0).u4(268).u4(0).u2(52).u2(0).u2(0).u2(40).u2(12).u2(11);
        // .text from 52 on, .rodata from 60, .data from 64, .starts from 68
        out.u1(3).u1(1).u1(3).u1(1).u1(0).all(new byte[3]).u1(0x11).u1(0x12).u1(0x13).u1(0);
        out.u1(0x21).u1(0x22).u1(0x23).u1(0x24).u2(0).u2(2);
        // .rela.text from 72 on, .rela.rodata from 84, .rela.data from 96
        out.u4(3).u4(2 * 256 + 45).u4(0xFFFFFFFFL);
        out.u4(1).u4(256 + 34).u4(8);
        out.u4(0).u4(2 * 256 + 1).u4(9).u4(3).u4(256 + 37).u4(7);
        // .symtab from 120 on, .strtab from 168, .shstrtab from 173 to 268
        out.all(new byte[16]);
        out.u4(1).u4(300).u4(0).u1(0).u1(0).u2(4);
        out.u4(3).u4(1).u4(3).u1(0x11).u1(0).u2(3);
        text(out, "\0l\0g\0");
        text(out, "\0.text\0.rodata\0.data\0.bss\0.starts\0.rela.text\0.rela.rodata\0.rela.data\0.symtab\0.strtab\0.shstrtab\0");
        long[][] entries = {{0, 0, 0, 0, 0, 0, 0, 0, 0, 0}, {1, 1, 6, 0, 52, 5, 0, 0, 1, 0}, {7, 1, 2, 0, 60, 3, 0, 0, 4, 0},
            {15, 1, 3, 0, 64, 4, 0, 0, 2, 0}, {21, 8, 3, 0, 68, 300, 0, 0, 64, 0}, {26, 1, 0, 0, 68, 4, 0, 0, 2, 2},
            {34, 4, 64, 0, 72, 12, 9, 1, 4, 12}, {45, 4, 64, 0, 84, 12, 9, 2, 4, 12}, {58, 4, 64, 0, 96, 24, 9, 3, 4, 12},
            {69, 2, 0, 0, 120, 48, 10, 2, 4, 16}, {77, 3, 0, 0, 168, 5, 0, 0, 1, 0}, {85, 3, 0, 0, 173, 95, 0, 0, 1, 0}};
        for (long[] entry : entries) {
            for (long number : entry) {
                out.u4(number);
            }
        }
        Use.sameFile(C, x -> {
            makeAll(x);
            C.due("write", x.write(), 268 + 12 * 40);
        }, out.toByteArray());
    }

    private static void text(Model.Out out, String text) {
        for (int k = 0; k < text.length(); k++) {
            out.u1(text.charAt(k));
        }
    }

    private static void partsAtTheirAlignments() {
        C.sentence("each from the next place on that is a multiple of its alignment");
        for (int a = 0; a < 7; a++) {
            for (int b = 0; b < 7; b++) {
                for (int c = 0; c < 7; c += 2) {
                    Use x = new Use().zeros(0, 1 + 9 * c).zeros(1, 3 + a).zeros(2, 1 + b);
                    x.align(0, a);
                    x.align(1, b);
                    x.align(2, c);
                    x.start(0);
                    x.relocation(0, 0, 51, -1, 0);
                    written(x);
                    int text = up(52, 1 << a);
                    int rodata = up(text + 1 + 9 * c, 1 << b);
                    int data = up(rodata + 3 + a, 1 << c);
                    int bss = data + 1 + b;
                    int starts = up(bss, 2);
                    int rela = up(starts + 2, 4);
                    int[] due = {text, rodata, data, bss, starts, rela, rela + 12, rela + 28, rela + 29};
                    for (int e = 1; e <= 9; e++) {
                        C.due("begin of " + e, x.entry(e, BEGIN), due[e - 1]);
                    }
                }
            }
        }
    }

    private static void bytesBetweenAreZero() {
        C.sentence("(bytes between are 0)");
        Use x = new Use();
        for (int k = 0; k < 100; k++) {
            x.feed(8, -1L);
        }
        x.put(0, 1, -1L);
        x.put(1, 1, -1L);
        x.put(2, 1, -1L);
        x.align(0, 6);
        x.align(1, 5);
        x.align(2, 6);
        x.start(0);
        written(x);
        for (int k = 52; k < 132; k++) {
            C.due("byteAt " + k, x.byteAt(k), k == 64 || k == 96 || k == 128 ? 255 : 0);
        }
        C.due(".starts begins", x.entry(5, BEGIN), 130);
        C.due(".symtab begins", x.entry(6, BEGIN), 132);
        C.due("before the TABLE", x.byteAt((int) x.u4(32) - 1), 0);
    }

    private static void emptySections() {
        C.sentence(".text, .rodata, .data (with their alignments) (also when they are empty)");
        Use x = new Use();
        x.align(0, 6);
        x.align(1, 5);
        x.align(2, 4);
        x.align(3, 6);
        x.put(1, 1, 0);
        written(x);
        int[] begins = {64, 64, 80, 80, 80};
        int[] lengths = {0, 1, 0, 0, 16};
        int[] alignments = {64, 32, 16, 64, 4};
        for (int k = 0; k < begins.length; k++) {
            C.due("begin of " + (k + 1), x.entry(k + 1, BEGIN), begins[k]);
            C.due("bytes of " + (k + 1), x.entry(k + 1, BYTES), lengths[k]);
            C.due("alignment of " + (k + 1), x.entry(k + 1, ALIGNMENT), alignments[k]);
        }
    }

    private static void starts() {
        C.sentence(".starts (2), if there are STARTS: a U2 each");
        Use x = new Use().zeros(0, 1027);
        written(x);
        C.due("entries without", x.u2(48), 8);
        x.start(0);
        x.start(258);
        x.start(1026);
        written(x);
        C.due("entries with", x.u2(48), 9);
        // .text ends at 1079
        C.due("begin", x.entry(5, BEGIN), 1080);
        C.due("bytes", x.entry(5, BYTES), 6);
        bytesFrom(x, 1079, 0, 0, 0, 2, 1, 2, 4, 0, 0);
    }

    private static void relocationsInTheirOrder() {
        C.sentence(".rela.text, .rela.rodata, .rela.data (4), each if there are relocations of its section: 12 bytes each, in their order");
        Use x = new Use().zeros(0, 8).zeros(1, 8).zeros(2, 9);
        x.symbol("a", 4, 0, 0, 1);
        int[] sections = {2, 1, 0, 2, 0, 1, 2};
        for (int k = 0; k < sections.length; k++) {
            x.relocation(sections[k], k, 33, 0, 0);
        }
        written(x);
        // .data ends at 77
        C.due(".rela.text", x.entry(5, BEGIN), 80);
        C.due(".rela.text's bytes", x.entry(5, BYTES), 24);
        C.due(".rela.rodata", x.entry(6, BEGIN), 104);
        C.due(".rela.rodata's bytes", x.entry(6, BYTES), 24);
        C.due(".rela.data", x.entry(7, BEGIN), 128);
        C.due(".rela.data's bytes", x.entry(7, BYTES), 36);
        int[] due = {2, 4, 1, 5, 0, 3, 6};
        for (int k = 0; k < due.length; k++) {
            C.due("the place", x.u4(80 + 12 * k), due[k]);
        }
    }

    private static void symbolsLocalFirst() {
        C.sentence(".symtab (4): 16 bytes 0, then 16 for each symbol, local ones first, else in their order");
        Use x = new Use();
        written(x);
        C.due("bytes without symbols", x.entry(5, BYTES), 16);
        bytesFrom(x, 52, new int[16]);
        x.put(0, 1, -1L);
        int[] binds = {1, 0, 2, 0, 2, 1, 0};
        for (int k = 0; k < binds.length; k++) {
            x.symbol("" + k, 4, 100 + k, 0, binds[k]);
        }
        written(x);
        C.due("begin", x.entry(5, BEGIN), 56);
        C.due("bytes", x.entry(5, BYTES), 128);
        bytesFrom(x, 53, new int[19]);
        int[] due = {1, 3, 6, 0, 2, 4, 5};
        for (int k = 0; k < due.length; k++) {
            C.due("value of row " + (k + 1), x.u4(56 + 16 * (k + 1) + 4), 100 + due[k]);
        }
    }

    private static void stringsAndTableAligned() {
        C.sentence(".strtab (1); .shstrtab (1); the TABLE (4), 40 bytes for each ENTRY.");
        for (int n = 1; n <= 4; n++) {
            Use x = new Use();
            x.symbol("abcd".substring(0, n), 4, 0, 0, 0);
            int size = x.write();
            int table = up(52 + 32 + 1 + n + 1 + 52, 4);
            C.due(".strtab", x.entry(6, BEGIN), 84);
            C.due(".shstrtab", x.entry(7, BEGIN), 86 + n);
            C.due("the TABLE's place", x.u4(32), table);
            C.due("size", size, table + 8 * 40);
        }
    }

    // ---- the entries

    private static void entriesThatAreThere() {
        C.sentence("ENTRIES, by numbers: 0 none; .text, .rodata, .data, .bss, .starts, .rela.text, .rela.rodata, .rela.data, .symtab, .strtab, .shstrtab: those that are there (the first four, and the last three, always).");
        for (int which = 0; which < 16; which++) {
            Use x = new Use();
            x.symbol("a", 4, 0, 0, 1);
            boolean[] there = {true, true, true, true, false, false, false, false, true, true, true};
            for (int s = 0; s < 3; s++) {
                x.zeros(s, 8);
                if ((which >> s & 1) != 0) {
                    x.relocation(s, 0, 1, 0, 0);
                    there[5 + s] = true;
                }
            }
            if (which >= 8) {
                x.start(0);
                there[4] = true;
            }
            written(x);
            int[] sorts = {1, 1, 1, 8, 1, 4, 4, 4, 2, 3, 3};
            int[] flags = {6, 2, 3, 3, 0, 64, 64, 64, 0, 0, 0};
            int[] units = {0, 0, 0, 0, 2, 12, 12, 12, 16, 0, 0};
            int e = 1;
            for (int part = 0; part < 11; part++) {
                if (there[part]) {
                    C.due("sort", x.entry(e, SORT), sorts[part]);
                    C.due("flags", x.entry(e, 2), flags[part]);
                    C.due("the number behind", x.entry(e, 3), 0);
                    C.due("how many bytes one has", x.entry(e, UNIT), units[part]);
                    e++;
                }
            }
            C.due("how many entries", x.u2(48), e);
            C.due(".shstrtab's entry", x.u2(50), e - 1);
            C.due("size", x.size(), x.u4(32) + 40 * e);
        }
    }

    private static void entryZero() {
        C.sentence("Entry 0 is ten times 0.");
        Use x = new Use();
        for (int k = 0; k < 100; k++) {
            x.feed(8, -1L);
        }
        makeAll(x);
        written(x);
        for (int number = 0; number < 10; number++) {
            C.due("number " + number, x.entry(0, number), 0);
        }
    }

    private static void entryOfBss() {
        C.sentence("(.bss: the end of .data's bytes, as all is laid, without regard to its alignment), how many bytes (.bss: its size), .. the alignment (.bss: its own)");
        Use x = new Use().zeros(2, 3);
        x.align(2, 3);
        x.align(3, 6);
        x.bss(4096);
        written(x);
        C.due("begin", x.entry(4, BEGIN), 59);
        C.due("bytes", x.entry(4, BYTES), 4096);
        C.due("alignment", x.entry(4, ALIGNMENT), 64);
        C.due(".symtab follows .data", x.entry(5, BEGIN), 60);
        Use y = new Use().zeros(1, 3);
        y.align(2, 6);
        written(y);
        C.due("the end of an empty .data", y.entry(4, BEGIN), 64);
        C.due("bytes", y.entry(4, BYTES), 0);
        C.due("alignment", y.entry(4, ALIGNMENT), 1);
        C.due("begin of the empty one", written(new Use()).entry(4, BEGIN), 52);
    }

    private static void entryLinksAndInfos() {
        C.sentence("a link (.rela..: the entry of .symtab; .symtab: that of .strtab; else 0), an info (.rela..: the entry of its section; ..; else 0)");
        for (int which = 0; which < 16; which++) {
            Use x = new Use();
            x.symbol("a", 4, 0, 0, 1);
            int relas = 0;
            for (int s = 0; s < 3; s++) {
                x.zeros(s, 8);
                if ((which >> s & 1) != 0) {
                    x.relocation(s, 0, 1, 0, 0);
                    relas++;
                }
            }
            int starts = which >> 3;
            if (starts != 0) {
                x.start(0);
            }
            written(x);
            int symtab = 5 + starts + relas;
            int e = 5 + starts;
            for (int s = 0; s < 3; s++) {
                if ((which >> s & 1) != 0) {
                    C.due("link of .rela", x.entry(e, LINK), symtab);
                    C.due("info of .rela", x.entry(e, INFO), s + 1);
                    e++;
                }
            }
            C.due("link of .symtab", x.entry(symtab, LINK), symtab + 1);
            int[] others = {1, 2, 3, 4, 4 + starts, symtab + 1, symtab + 2};
            for (int other : others) {
                C.due("link of " + other, x.entry(other, LINK), 0);
                C.due("info of " + other, x.entry(other, INFO), 0);
            }
        }
    }

    private static void entryInfoOfSymtab() {
        C.sentence(".symtab: how many of its 16 bytes are none or local, the first included");
        for (int locals = 0; locals < 3; locals++) {
            for (int others = 0; others < 3; others++) {
                Use x = new Use();
                for (int k = 0; k < others; k++) {
                    x.symbol("g" + k, 4, 0, 0, 1 + k);
                }
                for (int k = 0; k < locals; k++) {
                    x.symbol("l", 4, 0, 0, 0);
                }
                written(x);
                C.due("info with " + locals + " and " + others, x.entry(5, INFO), 1 + locals);
            }
        }
        Use y = new Use();
        for (int k = 0; k < 100; k++) {
            y.symbol("l", 4, 0, 0, 0);
        }
        written(y);
        C.due("info with 100", y.entry(5, INFO), 101);
    }

    // ---- the strings

    private static void stringsBeginWithZero() {
        C.sentence("STRINGS (.strtab, .shstrtab) begin with a byte 0.");
        Use x = new Use();
        written(x);
        // .strtab is 68, .shstrtab from 69 on
        C.due("bytes of .strtab without names", x.entry(6, BYTES), 1);
        bytesFrom(x, 68, 0, 0, '.', 't', 'e', 'x', 't', 0, '.', 'r');
        x.symbol("xy", 4, 0, 0, 0);
        written(x);
        bytesFrom(x, 84, 0, 'x', 'y', 0, 0, '.', 't');
        C.due("bytes of .strtab", x.entry(6, BYTES), 4);
        C.due("its name's place", x.u4(68), 1);
    }

    private static void namesAt(String[] names, int[] due, int bytes) {
        Use x = new Use();
        for (String name : names) {
            x.symbol(name, 4, 0, 0, 0);
        }
        written(x);
        for (int k = 0; k < due.length; k++) {
            C.due("place of " + names[k], x.u4(52 + 16 * (k + 1)), due[k]);
        }
        C.due("bytes of .strtab", x.entry(6, BYTES), bytes);
    }

    private static void stringsAtTheLeastPlace() {
        C.sentence("a name is at the least place where its characters and a 0 stand already, otherwise it is put behind, with a 0.");
        // the same name, and the end of another one
        namesAt(new String[] {"ab", "ab", "b", "ab"}, new int[] {1, 1, 2, 1}, 4);
        // not the beginning or the middle of another one
        namesAt(new String[] {"abc", "ab", "a", "b", "bc", "c"}, new int[] {1, 5, 8, 6, 2, 3}, 10);
        // of two places the lesser one, also when the name itself stands behind
        namesAt(new String[] {"xab", "yab", "ab", "b"}, new int[] {1, 5, 2, 3}, 9);
        namesAt(new String[] {"ab", "xab", "b", "b.", "ab", "xa", "cab", "ca"}, new int[] {1, 4, 2, 8, 1, 11, 14, 18}, 21);
        // a name put in before is not moved into a longer one behind
        namesAt(new String[] {"n", "in", "ain", "main"}, new int[] {1, 3, 6, 10}, 15);
        namesAt(new String[] {"main", "ain", "in", "n"}, new int[] {1, 2, 3, 4}, 6);
        // within a row of the same characters
        namesAt(new String[] {"aaa", "aa", "a", "aaaa"}, new int[] {1, 2, 3, 5}, 10);
        namesAt(new String[] {"0123456789abcdef", "f", "123456789abcdef", "0123456789abcdef"}, new int[] {1, 16, 2, 1}, 18);
        namesAt(new String[] {"0123456789abcdef", "0123456789abcdef", "123456789abcdef", "x"}, new int[] {1, 1, 2, 18}, 20);
        Use x = new Use();
        // what a longer name left behind is not looked at
        x.symbol("qqqqqqqq", 4, 0, 0, 0);
        x.symbol("rrrrrrrr", 4, 0, 0, 0);
        x.write();
        x.clear();
        x.symbol("ab", 4, 0, 0, 0);
        x.symbol("b", 4, 0, 0, 0);
        x.symbol("c", 4, 0, 0, 0);
        written(x);
        // .strtab from 116 on, .shstrtab behind it
        bytesFrom(x, 116, 0, 'a', 'b', 0, 'c', 0, 0, '.');
    }

    /** 100 names of 16 characters are too many letters, so that they are fed as a file, read and kept. */
    private static void stringsOfTheMostNames() {
        C.sentence("otherwise it is put behind, with a 0 (for 100 names of 16 characters)");
        Model.Obj o = new Model.Obj();
        for (int k = 0; k < 100; k++) {
            o.syms.add(new Model.Sym("name-no-" + (10000000 + k), 4, k, k, k % 3, k % 3));
        }
        byte[] file = Model.written(o);
        Use.sameFile(C, x -> {
            x.load(file);
            C.due("read", x.read(), 0);
            x.keep();
            x.cut(0);
            C.due("write", x.write(), file.length);
        }, file);
        Use x = new Use().load(file);
        x.read();
        x.keep();
        x.write();
        C.due("bytes of .strtab", x.entry(6, BYTES), 1 + 100 * 17);
        C.due("the last name's place", x.u4(52 + 16 * 100), 1 + 99 * 17);
    }

    private static void stringsAsTheyAreWritten() {
        C.sentence("Names are put in one after the other (of the symbols as they are written; ..)");
        Use x = new Use();
        x.symbol("n", 4, 0, 0, 1);
        x.symbol("main", 4, 0, 0, 0);
        x.symbol("q", 4, 0, 0, 2);
        x.symbol("p", 4, 0, 0, 0);
        written(x);
        // .symtab from 52 on: main, p, n, q; .strtab from 132 on
        int[] due = {1, 6, 4, 8};
        for (int k = 0; k < due.length; k++) {
            C.due("name of row " + (k + 1), x.u4(68 + 16 * k), due[k]);
        }
        bytesFrom(x, 132, 0, 'm', 'a', 'i', 'n', 0, 'p', 0, 'q', 0, 0, '.');
    }

    private static void stringsOfEntries() {
        C.sentence("Names are put in one after the other (..; of the entries 1, 2, ..)");
        int[] lengths = {6, 8, 6, 5, 8, 11, 13, 11, 8, 8, 10};
        for (int which = 0; which < 16; which++) {
            Use x = new Use();
            x.symbol("a", 4, 0, 0, 1);
            boolean[] there = {true, true, true, true, which >= 8, false, false, false, true, true, true};
            for (int s = 0; s < 3; s++) {
                x.zeros(s, 8);
                if ((which >> s & 1) != 0) {
                    x.relocation(s, 0, 1, 0, 0);
                    there[5 + s] = true;
                }
            }
            if (which >= 8) {
                x.start(0);
            }
            written(x);
            int at = 1;
            int e = 1;
            for (int part = 0; part < 11; part++) {
                if (there[part]) {
                    C.due("name of entry " + e, x.entry(e, NAME), at);
                    at += lengths[part];
                    e++;
                }
            }
            C.due("bytes of .shstrtab", x.entry(e - 1, BYTES), at);
        }
    }

    // ---- a symbol, a relocation

    private static void symbolNumbers() {
        C.sentence("A symbol: U4 its name's place, U4 value, U4 size, U1 16 * bind + type, U1 0, U2 where: 0 nowhere, a section's entry, 65521 absolute, 65522 common.");
        for (int bind = 0; bind < 3; bind++) {
            for (int type = 0; type < 3; type++) {
                Use x = new Use();
                x.letters("ab").symbol(4, 0x80818283, 0x70717273, bind, type);
                written(x);
                bytesFrom(x, 68, 1, 0, 0, 0, 0x83, 0x82, 0x81, 0x80, 0x73, 0x72, 0x71, 0x70, 16 * bind + type, 0, 0xF1, 0xFF);
            }
        }
        Use y = new Use();
        y.letters("a").symbol(-1, 0, 0, 1, 2);
        written(y);
        bytesFrom(y, 68, 1, 0, 0, 0, 0, 0, 0, 0, 0, 0, 0, 0, 0x12, 0, 0, 0);
        Use z = new Use();
        z.letters("a").symbol(5, 64, 4096, 1, 0);
        written(z);
        bytesFrom(z, 68, 1, 0, 0, 0, 64, 0, 0, 0, 0, 16, 0, 0, 0x10, 0, 0xF2, 0xFF);
    }

    private static void symbolSectionsEntries() {
        C.sentence("U2 where: .. a section's entry");
        for (int s = 0; s < 4; s++) {
            Use x = new Use();
            x.letters("a").symbol(s, 0, 0, 0, 1);
            written(x);
            bytesFrom(x, 68, 1, 0, 0, 0, 0, 0, 0, 0, 0, 0, 0, 0, 1, 0, s + 1, 0);
        }
    }

    private static void relocationNumbers() {
        C.sentence("A relocation: U4 place, U4 256 * (the symbol's number among the 16 bytes of .symtab; 0 without) + kind, U4 addend.");
        Use x = new Use().zeros(0, 264);
        x.symbol("g", 4, 0, 0, 1);
        x.symbol("l", 4, 0, 0, 0);
        x.symbol("w", 4, 0, 0, 2);
        x.symbol("m", 4, 0, 0, 0);
        x.relocation(0, 259, 39, 0, 0x01020304);
        x.relocation(0, 1, 16, 1, -2);
        x.relocation(0, 2, 17, 2, 0);
        x.relocation(0, 3, 45, 3, 0);
        x.relocation(0, 264, 51, -1, Integer.MIN_VALUE);
        x.relocation(0, 0, 43, -1, 62);
        written(x);
        // .rela.text from 316 on; written are l, m, g, w
        bytesFrom(x, 316, 3, 1, 0, 0, 39, 3, 0, 0, 4, 3, 2, 1);
        bytesFrom(x, 328, 1, 0, 0, 0, 16, 1, 0, 0, 0xFE, 0xFF, 0xFF, 0xFF);
        bytesFrom(x, 340, 2, 0, 0, 0, 17, 4, 0, 0, 0, 0, 0, 0);
        bytesFrom(x, 352, 3, 0, 0, 0, 45, 2, 0, 0, 0, 0, 0, 0);
        bytesFrom(x, 364, 8, 1, 0, 0, 51, 0, 0, 0, 0, 0, 0, 0x80);
        bytesFrom(x, 376, 0, 0, 0, 0, 43, 0, 0, 0, 62, 0, 0, 0);
        Use y = new Use();
        for (int k = 0; k < 100; k++) {
            y.symbol("a", 4, 0, 0, 0);
        }
        y.zeros(0, 4);
        y.relocation(0, 0, 1, 99, 0);
        y.relocation(0, 0, 1, 0, 0);
        written(y);
        bytesFrom(y, 56, 0, 0, 0, 0, 1, 100, 0, 0, 0, 0, 0, 0);
        bytesFrom(y, 68, 0, 0, 0, 0, 1, 1, 0, 0, 0, 0, 0, 0);
    }

    // ---- the header

    private static void headerMark() {
        C.sentence("The HEADER: 127, 69, 76, 70, 1, 1, 1, nine bytes 0; U2 1, U2 243, U4 1, U4 0, U4 0");
        Use x = new Use();
        for (int k = 0; k < 8; k++) {
            x.feed(8, -1L);
        }
        written(x);
        bytesFrom(x, 0, 127, 69, 76, 70, 1, 1, 1, 0, 0, 0, 0, 0, 0, 0, 0, 0);
        bytesFrom(x, 16, 1, 0, 243, 0, 1, 0, 0, 0, 0, 0, 0, 0, 0, 0, 0, 0);
    }

    private static void headerNumbers() {
        C.sentence("U4 the TABLE's place, .. U2 52, U2 0, U2 0, U2 40, U2 how many entries, U2 .shstrtab's entry.");
        Use x = new Use();
        for (int k = 0; k < 8; k++) {
            x.feed(8, -1L);
        }
        written(x);
        bytesFrom(x, 32, 124, 0, 0, 0, 0, 0, 0, 0, 52, 0, 0, 0, 0, 0, 40, 0, 8, 0, 7, 0);
        x.zeros(0, 2048);
        x.symbol("a", 4, 0, 0, 1);
        x.relocation(0, 0, 1, 0, 0);
        written(x);
        // 52 + 2048 + 12 + 32 + 3 + 63 is 2210
        bytesFrom(x, 32, 2212 & 255, 2212 >> 8, 0, 0, 0, 0, 0, 0, 52, 0, 0, 0, 0, 0, 40, 0, 9, 0, 8, 0);
    }

    private static void headerFlags() {
        C.sentence("U4 1 if a START is SHORT, else 0");
        Use x = new Use();
        x.put(0, 8, 0x03FFFFFF02FFFFFFL);
        written(x);
        C.due("no START", x.u4(36), 0);
        x.start(0);
        x.start(2);
        written(x);
        C.due("none is SHORT", x.u4(36), 0);
        x.start(4);
        written(x);
        C.due("the last is SHORT", x.u4(36), 1);
        x.start(6);
        written(x);
        C.due("one of them is SHORT", x.u4(36), 1);
        x.clear();
        x.put(0, 4, 0);
        x.start(0);
        x.start(2);
        written(x);
        C.due("all are SHORT", x.u4(36), 1);
    }
}
