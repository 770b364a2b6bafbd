/** READING, faults 1 to 10, sentence by sentence: the header. */
public final class HeaderFaultsTest {
    private static final Check C = new Check();
    private static final long MOST = (1L << 32) - 1;

    public static void main(String[] args) {
        fault01();
        fault02();
        faults03To05();
        fault06();
        fault07();
        fault08();
        fault09Version();
        fault09NextTwo();
        fault09TablesPlace();
        fault09Flags();
        fault09FixedNumbers();
        fault09Entries();
        fault09Names();
        fault09InTheirOrder();
        fault10();
        C.end();
    }

    private static Spoiled set(int at, int bytes, long number) {
        return new Spoiled(C, Sample.file()).set(at, bytes, number);
    }

    private static void fault01() {
        C.sentence("1 n is below 52 (place n).");
        for (int n = 0; n < 52; n++) {
            new Spoiled(C, Sample.file()).cut(n).due(n + " bytes", 1, n);
        }
        new Spoiled(C, Sample.file()).cut(52).due("52 bytes", 10, 32);
        set(0, 4, 0).cut(52).due("52 bytes, none as due", 2, 0);
        set(0, 4, 0).cut(51).due("51 bytes, none as due", 1, 51);
    }

    private static void fault02() {
        C.sentence("2 one of the first four bytes is another one.");
        int[] due = {127, 69, 76, 70};
        for (int k = 0; k < 4; k++) {
            for (int b : new int[] {0, due[k] - 1, due[k] + 1, due[k] ^ 128, 255}) {
                set(k, 1, b).due("byte " + k + " is " + b, 2, k);
            }
            set(k, 1, 0).set(3, 1, 0).due("the first of two", 2, k);
        }
        set(0, 4, 0).due("all four", 2, 0);
        set(0, 1, 69).set(1, 1, 127).due("two of them changed about", 2, 0);
    }

    private static void faults03To05() {
        String[] sentences = {"3 byte 4 isn't 1.", "4 byte 5 isn't 1.", "5 byte 6 isn't 1."};
        for (int k = 0; k < 3; k++) {
            C.sentence(sentences[k]);
            for (int b : new int[] {0, 2, 3, 129, 255}) {
                set(4 + k, 1, b).due("byte " + (4 + k) + " is " + b, 3 + k, 4 + k);
            }
        }
    }

    private static void fault06() {
        C.sentence("6 one of the bytes 7 .. 15 isn't 0.");
        for (int k = 7; k <= 15; k++) {
            for (int b : new int[] {1, 128, 255}) {
                set(k, 1, b).due("byte " + k + " is " + b, 6, k);
            }
            set(k, 1, 1).set(15, 1, 1).due("the first of two", 6, k);
        }
    }

    private static void fault07() {
        C.sentence("7 the U2 at 16 isn't 1.");
        for (int number : new int[] {0, 2, 3, 256, 257, 65535}) {
            set(16, 2, number).due("" + number, 7, 16);
        }
    }

    private static void fault08() {
        C.sentence("8 that at 18 isn't 243.");
        for (int number : new int[] {0, 1, 242, 244, 256, 243 + 256, 65535}) {
            set(18, 2, number).due("" + number, 8, 18);
        }
    }

    private static void wrong(int at, int bytes, long... numbers) {
        for (long number : numbers) {
            set(at, bytes, number).due(at + " is " + number, 9, at);
        }
    }

    private static void fault09Version() {
        C.sentence("9 of the numbers behind, in their order, one can't be: the version (1)");
        wrong(20, 4, 0, 2, 257, 1 << 16 | 1, 1L << 24 | 1, 1L << 31, MOST);
    }

    private static void fault09NextTwo() {
        C.sentence("9 .. the next two (0)");
        for (int at = 24; at <= 28; at += 4) {
            wrong(at, 4, 1, 256, 1 << 16, 1 << 24, 1L << 31, MOST);
        }
    }

    private static void fault09TablesPlace() {
        C.sentence("9 .. the TABLE's place (a multiple of 4, 52 or more)");
        wrong(32, 4, 0, 4, 48, 49, 50, 51, 53, 54, 55, 243, 245, 246, 247, MOST, MOST - 1, MOST - 2);
        set(32, 4, 52).due("52", 11, 52);
        set(32, 4, 56).due("56", 11, 56);
        // a TABLE right behind the header, and the parts behind it
        byte[] file = Model.written(new Model.Obj());
        byte[] moved = new byte[file.length];
        System.arraycopy(file, 0, moved, 0, 52);
        System.arraycopy(file, 124, moved, 52, 320);
        System.arraycopy(file, 52, moved, 372, 72);
        Spoiled s = new Spoiled(C, moved).set(32, 4, 52);
        for (int e = 1; e < 8; e++) {
            s.entry(e, 4, s.number(e, 4) + 320);
        }
        s.sound("the TABLE at 52");
    }

    private static void fault09Flags() {
        C.sentence("9 .. the flags (0, 1)");
        wrong(36, 4, 2, 3, 128, 256, 257, 1 << 16 | 1, 1L << 31, MOST);
        set(36, 4, 1).sound("1");
        set(36, 4, 0).due("0", 34, 36);
        new Spoiled(C, Model.written(new Model.Obj())).sound("0");
    }

    private static void fault09FixedNumbers() {
        C.sentence("9 .. 52, 0, 0, 40");
        wrong(40, 2, 0, 51, 53, 52 + 256, 65535);
        wrong(42, 2, 1, 32, 256, 65535);
        wrong(44, 2, 1, 256, 65535);
        wrong(46, 2, 0, 39, 41, 40 + 256, 65535);
    }

    private static void fault09Entries() {
        C.sentence("9 .. how many entries (1 .. 16)");
        wrong(48, 2, 0, 17, 18, 255, 256, 256 + 10, 65535);
        // 1 and 16 can be, and the first that is looked at behind them is at fault
        set(48, 2, 1).due("1", 9, 50);
        set(48, 2, 16).due("16", 10, 32);
        byte[] long16 = java.util.Arrays.copyOf(Sample.file(), Sample.TABLE + 16 * 40);
        new Spoiled(C, long16).set(48, 2, 16).due("16 that are there", 11, Sample.TABLE + 10 * 40 + 4);
        new Spoiled(C, long16).set(48, 2, 17).due("17", 9, 48);
    }

    private static void fault09Names() {
        C.sentence("9 .. the entry of the names (1 and more, below that).");
        wrong(50, 2, 0, 10, 11, 16, 256, 256 + 9, 65535);
        set(50, 2, 9).sound("9 of 10");
        set(50, 2, 1).due("1 of 10", 15, Sample.TABLE + 40 + 4);
        set(48, 2, 9).due("9 of 9", 9, 50);
        set(48, 2, 1).set(50, 2, 1).due("1 of 1", 9, 50);
        set(48, 2, 1).set(50, 2, 0).due("0 of 1", 9, 50);
    }

    private static void fault09InTheirOrder() {
        C.sentence("9 of the numbers behind, in their order");
        int[] at = {20, 24, 28, 32, 36, 40, 42, 44, 46, 48, 50};
        for (int i = 0; i < at.length; i++) {
            for (int j = i + 1; j < at.length; j++) {
                set(at[i], 1, 99).set(at[j], 1, 99).due(at[i] + " and " + at[j], 9, at[i]);
            }
        }
    }

    private static void fault10() {
        C.sentence("10 the TABLE goes beyond n (place: its place's number).");
        for (int n : new int[] {52, 53, 244, 300, 604, 640, 643}) {
            new Spoiled(C, Sample.file()).cut(n).due(n + " bytes", 10, 32);
        }
        new Spoiled(C, Sample.file()).cut(644).sound("up to n");
        new Spoiled(C, Sample.file()).cut(645).sound("a byte behind the TABLE");
        set(48, 2, 11).due("one entry too many", 10, 32);
        for (long place : new long[] {248, 644, 648, 8192, 65536, 1L << 31, MOST - 3, MOST - 399 & ~3L}) {
            set(32, 4, place).due("place " + place, 10, 32);
        }
        Use x = Big.made(Big.relocationsFor(8192));
        x.write();
        C.due("read", x.read(), 0);
        x.cut(8191);
        C.due("read of 8191 of 8192", x.read(), 10);
        C.due("place", x.place(), 32);
    }
}
