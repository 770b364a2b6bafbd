/** Promise 10, byte by byte: files that were laid down by hand. */
public final class WritingTest {
    private static final Check C = new Check();

    public static void main(String[] args) {
        sample();
        emptySectionsAreAlignedToo();
        namesShareTheirEnds();
        allRelocationParts();
        flagsTellShortStarts();
        C.end();
    }

    private static long u4(ObjectFile x, int at) {
        return x.byteAt(at) | x.byteAt(at + 1) << 8 | x.byteAt(at + 2) << 16 | (long) x.byteAt(at + 3) << 24;
    }

    private static long entry(ObjectFile x, int e, int number) {
        return u4(x, (int) u4(x, 32) + 40 * e + 4 * number);
    }

    private static void sample() {
        ObjectFile x = Sample.made();
        byte[] due = Sample.file();
        C.due("write", x.write(), 644);
        C.due("the file by hand", due.length, 644);
        for (int k = 0; k < due.length; k++) {
            C.due("byteAt " + k, x.byteAt(k), due[k] & 255);
        }
        x.cut(0);
        for (int k = 0; k < 1024; k++) {
            x.feed(8, -1L);
        }
        x.write();
        for (int k = 0; k < due.length; k++) {
            C.due("byteAt " + k + " over a full FILE", x.byteAt(k), due[k] & 255);
        }
    }

    private static void emptySectionsAreAlignedToo() {
        ObjectFile x = new ObjectFile();
        x.align(0, 6);
        x.align(1, 5);
        x.align(2, 4);
        x.align(3, 6);
        x.put(1, 1, 0);
        x.bss(100);
        x.write();
        long[] begins = {64, 64, 80, 80, 80};
        long[] lengths = {0, 1, 0, 100, 16};
        long[] alignments = {64, 32, 16, 64, 4};
        for (int k = 0; k < begins.length; k++) {
            C.due("begin of " + k, entry(x, k + 1, 4), begins[k]);
            C.due("length of " + k, entry(x, k + 1, 5), lengths[k]);
            C.due("alignment of " + k, entry(x, k + 1, 8), alignments[k]);
        }
    }

    private static int nameOf(ObjectFile x, int row) {
        return (int) u4(x, (int) entry(x, 5, 4) + 16 * row);
    }

    private static void namesShareTheirEnds() {
        ObjectFile x = new ObjectFile();
        String[] names = {"ab", "xab", "b", "b.", "ab", "xa", "cab", "ca"};
        for (String name : names) {
            PromisesTest.symbol(x, name, 4, 0, 0, 0);
        }
        x.write();
        // \0 ab\0 xab\0 b.\0 xa\0 cab\0 ca\0: b is in ab, which was there first
        int[] due = {1, 4, 2, 8, 1, 11, 14, 18};
        for (int k = 0; k < due.length; k++) {
            C.due("place of " + names[k], nameOf(x, k + 1), due[k]);
        }
        C.due("length of .strtab", entry(x, 6, 5), 21);
        C.due("info of .symtab", entry(x, 5, 7), 9);
    }

    private static void allRelocationParts() {
        ObjectFile x = new ObjectFile();
        PromisesTest.symbol(x, "a", 4, 0, 0, 1);
        for (int s = 0; s < 3; s++) {
            x.put(s, 8, 0);
        }
        x.relocation(2, 1, 1, 0, 0);
        x.relocation(1, 2, 1, 0, 0);
        x.relocation(0, 3, 1, 0, 0);
        x.relocation(2, 4, 1, 0, 0);
        x.write();
        long[][] due = {{76, 12, 8, 1}, {88, 12, 8, 2}, {100, 24, 8, 3}};
        for (int k = 0; k < 3; k++) {
            for (int i = 0; i < 4; i++) {
                C.due(".rela " + k + " " + i, entry(x, 5 + k, 4 + i), due[k][i]);
            }
        }
        C.due("first of .data", u4(x, 100), 1);
        C.due("second of .data", u4(x, 112), 4);
        C.due(".rela.text's name", entry(x, 5, 0), 26);
        C.due(".rela.rodata's name", entry(x, 6, 0), 37);
        C.due(".rela.data's name", entry(x, 7, 0), 50);
        C.due(".symtab's name", entry(x, 8, 0), 61);
        C.due("entries", x.byteAt(48), 11);
        C.due(".shstrtab's entry", x.byteAt(50), 10);
    }

    private static void flagsTellShortStarts() {
        ObjectFile x = new ObjectFile();
        x.put(0, 4, 0x0300FF0000000000L);
        x.write();
        C.due("no start", x.byteAt(36), 0);
        x.start(0);
        x.start(2);
        x.write();
        C.due("no short start", x.byteAt(36), 0);
        x.put(0, 2, 0x0200000000000000L);
        x.start(4);
        x.write();
        C.due("a short start", x.byteAt(36), 1);
    }
}
