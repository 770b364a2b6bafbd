/** One object, and its file laid down by hand from the document. */
final class Sample {
    static final int TABLE = 244;
    static final int SYMTAB = 96;
    static final int STRTAB = 160;
    static final int SHSTRTAB = 170;
    static final int RELA = 72;
    static final int STARTS = 66;

    static final long[][] ENTRIES = {
        {0, 0, 0, 0, 0, 0, 0, 0, 0, 0},
        {1, 1, 6, 0, 52, 6, 0, 0, 4, 0},
        {7, 1, 2, 0, 64, 2, 0, 0, 8, 0},
        {15, 1, 3, 0, 66, 0, 0, 0, 1, 0},
        {21, 8, 3, 0, 66, 5, 0, 0, 16, 0},
        {26, 1, 0, 0, 66, 4, 0, 0, 2, 2},
        {34, 4, 64, 0, 72, 24, 7, 1, 4, 12},
        {45, 2, 0, 0, 96, 64, 8, 2, 4, 16},
        {53, 3, 0, 0, 160, 10, 0, 0, 1, 0},
        {61, 3, 0, 0, 170, 71, 0, 0, 1, 0},
    };

    private Sample() {
    }

    static void make(Use x) {
        x.put(0, 6, 0x1300000001000000L);
        x.align(0, 2);
        x.start(0);
        x.start(4);
        x.put(1, 2, 0x6869000000000000L);
        x.align(1, 3);
        x.bss(5);
        x.align(3, 4);
        x.letters("main").symbol(0, 0, 6, 1, 2);
        x.letters("ain").symbol(1, 0, 2, 0, 1);
        x.letters("n").symbol(-1, 0, 0, 2, 0);
        x.relocation(0, 0, 17, 2, 7);
        x.relocation(0, 4, 44, 1, -2);
    }

    static byte[] file() {
        Model.Out out = new Model.Out();
        out.u1(127).u1(69).u1(76).u1(70).u1(1).u1(1).u1(1).all(new byte[9]);
        out.u2(1).u2(243).u4(1).u4(0).u4(0).u4(TABLE).u4(1).u2(52).u2(0).u2(0).u2(40).u2(10).u2(9);
        out.u1(0x13).u1(0).u1(0).u1(0).u1(1).u1(0);
        out.all(new byte[6]).u1(0x68).u1(0x69);
        out.u2(0).u2(4);
        out.u2(0);
        out.u4(0).u4(256 * 3 + 17).u4(7);
        out.u4(4).u4(256 + 44).u4(0xFFFFFFFEL);
        out.all(new byte[16]);
        out.u4(1).u4(0).u4(2).u1(1).u1(0).u2(2);
        out.u4(5).u4(0).u4(6).u1(0x12).u1(0).u2(1);
        out.u4(3).u4(0).u4(0).u1(0x20).u1(0).u2(0);
        text(out, "\0ain\0main\0");
        text(out, "\0.text\0.rodata\0.data\0.bss\0.starts\0.rela.text\0.symtab\0.strtab\0.shstrtab\0");
        out.all(new byte[3]);
        for (long[] entry : ENTRIES) {
            for (long number : entry) {
                out.u4(number);
            }
        }
        return out.toByteArray();
    }

    private static void text(Model.Out out, String text) {
        for (int k = 0; k < text.length(); k++) {
            out.u1(text.charAt(k));
        }
    }

    static long eight(byte[] all, int from) {
        long eight = 0;
        for (int k = from; k < from + 8; k++) {
            eight = eight << 8 | (k < all.length ? all[k] & 255 : 0);
        }
        return eight;
    }
}
