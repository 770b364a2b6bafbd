/** Promises 10 to 18, sentence by sentence: the FILE, and how objects come from and to it. */
public final class FileTest {
    private static final Check C = new Check();
    private static final int MOST = Integer.MAX_VALUE;
    private static final int LEAST = Integer.MIN_VALUE;

    public static void main(String[] args) {
        writeHowMany();
        writeReplacesTheFile();
        writeLeavesTheObjects();
        writeStartNotInText();
        writeSymbolBeyond();
        writeRelocationBeyond();
        writeTooLong();
        writeFull();
        writeTheFirstThatIsSo();
        writeRefusedTheFileStays();
        sizeOfTheFile();
        byteAtAll();
        byteAtNone();
        feedHighestFirst();
        feedNumbers();
        feedTooMany();
        cutFirstBytes();
        cutRefused();
        spoilLowestEightBits();
        spoilRefused();
        readAnswers();
        readTakesWhatTheFileTells();
        writtenIsReadAsItWas();
        readWithAFaultItStays();
        readLeavesTheRest();
        placeOfTheLatest();
        placeNone();
        keepIsTheReadOne();
        keepOfTheEmptyOne();
        keepLeavesTwoObjects();
        keepDraft();
        C.end();
    }

    // ---- promise 10

    private static void writeHowMany() {
        C.sentence("write: The FILE is the MADE object, WRITTEN: how many bytes.");
        C.due("write of the empty one", new Use().write(), 444);
        Use.sameFile(C, Use::write, Model.written(new Model.Obj()));
        Use x = Use.after(Sample::make);
        C.due("write of the sample", x.write(), Sample.file().length);
        C.due("size", x.size(), Sample.file().length);
        C.due("write again", x.write(), Sample.file().length);
        Use.sameFile(C, y -> {
            Sample.make(y);
            y.write();
        }, Sample.file());
    }

    private static void writeReplacesTheFile() {
        C.sentence("write: The FILE is the MADE object, WRITTEN (and nothing of the one before)");
        Use.sameFile(C, y -> {
            for (int k = 0; k < 100; k++) {
                y.feed(8, -1L);
            }
            Sample.make(y);
            y.write();
        }, Sample.file());
        Use.sameFile(C, y -> {
            y.feed(8, -1L);
            Sample.make(y);
            y.write();
        }, Sample.file());
        Use.sameFile(C, y -> {
            Sample.make(y);
            y.write();
            y.clear();
            y.write();
        }, Model.written(new Model.Obj()));
    }

    private static void writeLeavesTheObjects() {
        C.sentence("write: The FILE is the MADE object, WRITTEN (and the objects stay)");
        Use x = Use.after(Sample::make);
        x.letter('d');
        x.write();
        C.due("the READ one is empty", x.count(1), 0);
        C.no("the STARTS are there", x.start(4));
        C.due("the draft stays", x.symbol(4, 0, 0, 1, 0), 3);
        C.due("the relocations are there", x.relocation(0, 6, 51, -1, 0), 2);
    }

    private static void writeStartNotInText() {
        C.sentence("write: -1 a START is not in .text");
        Use x = new Use();
        x.start(0);
        C.due("at 0 of none", x.write(), -1);
        x.put(0, 1, 0);
        C.yes("at 0 of one", x.write() > 0);
        x.start(2);
        C.due("at 2 of one", x.write(), -1);
        x.put(0, 1, 0);
        C.due("at 2 of two", x.write(), -1);
        x.put(0, 1, 0);
        C.yes("at 2 of three", x.write() > 0);
        x.start(2046);
        C.due("at 2046", x.write(), -1);
        x.zeros(0, 2043);
        C.due("at 2046 of 2046", x.write(), -1);
        x.put(0, 1, 0);
        C.yes("at 2046 of 2047", x.write() > 0);
        Use y = new Use().zeros(1, 8).zeros(2, 8);
        y.start(0);
        C.due("in .rodata and .data", y.write(), -1);
    }

    private static void writeSymbolBeyond() {
        C.sentence("write: -2 a symbol goes beyond its section");
        for (int s = 0; s < 4; s++) {
            Use x = new Use();
            x.symbol("a", s, 2, 3, 1);
            for (int size = 0; size < 5; size++) {
                C.due("size " + size, x.write(), -2);
                if (s == 3) {
                    x.bss(size + 1);
                } else {
                    x.put(s, 1, 0);
                }
            }
            C.yes("size 5", x.write() > 0);
            x.symbol("b", s, 5, 0, 0);
            C.yes("nothing at the end", x.write() > 0);
            x.symbol("c", s, 6, 0, 0);
            C.due("nothing behind the end", x.write(), -2);
        }
        Use y = new Use();
        y.symbol("a", 4, MOST, MOST, 0);
        y.symbol("b", 5, 64, 4096, 1);
        y.symbol("c", -1, 0, 0, 1);
        C.yes("not in a section", y.write() > 0);
        y.symbol("d", 3, MOST, MOST, 0);
        C.due("both together wrap around", y.write(), -2);
        Use z = new Use();
        z.bss(4096);
        z.symbol("a", 3, 4096, 0, 0);
        z.symbol("b", 3, 0, 4096, 0);
        C.yes("all of .bss", z.write() > 0);
        z.bss(4095);
        C.due(".bss is shorter", z.write(), -2);
    }

    private static void writeRelocationBeyond() {
        C.sentence("write: -3 a relocation goes beyond its section");
        for (int s = 0; s < 3; s++) {
            Use x = new Use();
            x.symbol("a", 4, 0, 0, 0);
            x.relocation(s, 1, 35, 0, 0);
            for (int size = 0; size < 5; size++) {
                C.due("size " + size, x.write(), -3);
                x.put(s, 1, 0);
            }
            C.yes("size 5", x.write() > 0);
            x.relocation(s, MOST, 35, 0, 0);
            C.due("place and width wrap around", x.write(), -3);
        }
        Use y = new Use();
        y.relocation(0, 0, 51, -1, 0);
        y.relocation(0, 0, 43, -1, 0);
        C.yes("of no width in none", y.write() > 0);
        y.relocation(0, 0, 43, -1, 2);
        C.due("43 by 2", y.write(), -3);
        y.zeros(0, 2);
        C.yes("43 by 2 in 2", y.write() > 0);
        y.relocation(0, 3, 51, -1, 0);
        C.due("51 behind the end", y.write(), -3);
    }

    private static void writeTooLong() {
        C.sentence("write: -4 it would have more than 8192 bytes");
        for (int more = 1; more <= 3; more++) {
            Use x = Big.made(Big.relocationsFor(8192) + more);
            C.due("write", x.write(), -4);
        }
        Use x = Big.made(Big.relocationsFor(8192));
        x.symbol("a", 4, 0, 0, 0);
        C.due("16 bytes more", x.write(), -4);
        x.clear();
        C.due("write behind clear", x.write(), 444);
    }

    private static void writeFull() {
        C.sentence("write: (not more than) 8192 bytes");
        Use x = Big.made(Big.relocationsFor(8192));
        C.due("write", x.write(), 8192);
        C.due("size", x.size(), 8192);
        C.due("read", x.read(), 0);
        C.due("count 2", x.count(2), 146);
        C.due("section 2 0", x.section(2, 0), 2048);
        C.due("the TABLE's place", x.u4(32), 8192 - 480);
        x.keep();
        C.due("write again", x.write(), 8192);
    }

    private static void writeTheFirstThatIsSo() {
        C.sentence("write: Refused, the first that is so");
        for (int which = 1; which < 8; which++) {
            Use x = new Use();
            x.symbol("a", 4, 0, 0, 0);
            if ((which & 4) != 0) {
                x.relocation(0, 0, 1, 0, 0);
            }
            if ((which & 2) != 0) {
                x.symbol("b", 0, 0, 1, 0);
            }
            if ((which & 1) != 0) {
                x.start(0);
            }
            C.due("of " + which, x.write(), (which & 1) != 0 ? -1 : (which & 2) != 0 ? -2 : -3);
            Use y = Big.made(Big.relocationsFor(8192) + 1);
            if ((which & 4) != 0) {
                y.relocation(0, 1796, 1, 0, 0);
            }
            if ((which & 2) != 0) {
                y.symbol("b", 0, 1800, 0, 0);
            }
            if ((which & 1) != 0) {
                y.start(1800);
            }
            C.due("of " + which + " and too long", y.write(), (which & 1) != 0 ? -1 : (which & 2) != 0 ? -2 : -3);
        }
    }

    private static void writeRefusedTheFileStays() {
        C.sentence("write: Refused (the FILE stays)");
        for (int refused = -3; refused < 0; refused++) {
            int which = refused;
            Use.Story story = x -> {
                Sample.make(x);
                x.write();
                if (which == -1) {
                    x.start(6);
                } else if (which == -2) {
                    x.symbol("z", 0, 7, 0, 0);
                } else {
                    x.relocation(0, 3, 1, 0, 0);
                }
                C.due("write", x.write(), which);
            };
            Use.sameFile(C, story, Sample.file());
        }
        Use.sameFile(C, x -> {
            x.start(0);
            C.due("write", x.write(), -1);
        }, new byte[0]);
        Use x = Big.made(Big.relocationsFor(8192) + 1);
        x.cut(11);
        C.due("write", x.write(), -4);
        C.due("size", x.size(), 11);
        C.due("byteAt 3", x.byteAt(3), 70);
        C.due("byteAt 11", x.byteAt(11), -1);
        Use y = Big.made(Big.relocationsFor(8192) + 1);
        int n = y.size();
        C.due("write", y.write(), -4);
        C.due("size", y.size(), n);
        C.due("read of what was", y.read(), 0);
        C.due("count 2", y.count(2), 0);
    }

    // ---- promise 11

    private static void sizeOfTheFile() {
        C.sentence("size: How many bytes the FILE has.");
        Use x = new Use();
        C.due("none", x.size(), 0);
        for (int n = 1; n <= 8; n++) {
            x.feed(n, 0);
            C.due("fed", x.size(), n * (n + 1) / 2);
        }
        x.feed(9, 0);
        C.due("refused", x.size(), 36);
        x.cut(37);
        C.due("refused", x.size(), 36);
        x.cut(20);
        C.due("cut", x.size(), 20);
        x.spoil(19, 1);
        x.spoil(20, 1);
        C.due("spoiled", x.size(), 20);
        x.read();
        C.due("read", x.size(), 20);
        C.due("written", x.write(), x.size());
        x.cut(0);
        C.due("cut", x.size(), 0);
    }

    // ---- promise 12

    private static void byteAtAll() {
        C.sentence("byteAt: Byte k of the FILE, 0 .. 255");
        Use x = new Use();
        for (int k = 0; k < 256; k += 8) {
            long eight = 0;
            for (int i = 0; i < 8; i++) {
                eight = eight << 8 | k + i;
            }
            x.feed(8, eight);
        }
        for (int k = 0; k < 256; k++) {
            C.due("byteAt " + k, x.byteAt(k), k);
        }
    }

    private static void byteAtNone() {
        C.sentence("byteAt: NONE when there is none.");
        Use x = new Use();
        C.due("byteAt 0 of none", x.byteAt(0), -1);
        x.feed(8, -1L);
        x.feed(3, -1L);
        C.due("byteAt 0", x.byteAt(0), 255);
        C.due("byteAt 10", x.byteAt(10), 255);
        for (int k : new int[] {LEAST, -8192, -1, 11, 12, 8191, 8192, MOST}) {
            C.due("byteAt " + k, x.byteAt(k), -1);
        }
        x.cut(10);
        C.due("byteAt 9", x.byteAt(9), 255);
        C.due("byteAt 10 behind cut", x.byteAt(10), -1);
        Use y = Big.made(Big.relocationsFor(8192));
        y.write();
        C.due("the last byte", y.byteAt(8191), 0);
        C.due("behind the last byte", y.byteAt(8192), -1);
    }

    // ---- promise 13

    private static void feedHighestFirst() {
        C.sentence("feed: The n highest bytes of eight (the highest first) come behind the FILE.");
        Use x = new Use();
        for (int n = 1; n <= 8; n++) {
            C.yes("feed of " + n, x.feed(n, 0xF1828384_05060708L));
        }
        int[] eight = {0xF1, 0x82, 0x83, 0x84, 5, 6, 7, 8};
        int k = 0;
        for (int n = 1; n <= 8; n++) {
            for (int i = 0; i < n; i++) {
                C.due("byteAt " + k, x.byteAt(k), eight[i]);
                k++;
            }
        }
        C.due("size", x.size(), 36);
        x.write();
        C.yes("feed behind what was written", x.feed(2, 0x0908000000000000L));
        C.due("size", x.size(), 446);
        C.due("byteAt 444", x.byteAt(444), 9);
        C.due("byteAt 445", x.byteAt(445), 8);
        C.due("read", x.read(), 0);
    }

    private static void feedNumbers() {
        C.sentence("feed: False, refused, when n isn't 1 .. 8");
        Use x = new Use();
        x.feed(3, 0x0102030000000000L);
        for (int n : new int[] {LEAST, -8192, -8, -1, 0, 9, 10, 64, 8192, MOST}) {
            C.no("feed of " + n, x.feed(n, -1L));
            C.due("size", x.size(), 3);
        }
        C.due("byteAt 2", x.byteAt(2), 3);
        C.due("byteAt 3", x.byteAt(3), -1);
        C.yes("feed of 1", x.feed(1, -1L));
        C.yes("feed of 8", x.feed(8, -1L));
        C.due("size", x.size(), 12);
    }

    private static void feedTooMany() {
        C.sentence("feed: False, refused, when it would have more than 8192");
        Use x = Big.made(Big.relocationsFor(8180));
        C.due("write", x.write(), 8180);
        C.yes("feed of 8 behind 8180", x.feed(8, -1L));
        for (int n = 5; n <= 8; n++) {
            C.no("feed of " + n + " behind 8188", x.feed(n, 0));
        }
        C.yes("feed of 1", x.feed(1, -1L));
        C.no("feed of 4 behind 8189", x.feed(4, 0));
        C.yes("feed of 3", x.feed(3, 0xAABBCC0000000000L));
        for (int n = 1; n <= 8; n++) {
            C.no("feed of " + n + " behind 8192", x.feed(n, 0));
        }
        C.due("size", x.size(), 8192);
        C.due("byteAt 8188", x.byteAt(8188), 255);
        C.due("byteAt 8191", x.byteAt(8191), 0xCC);
        C.due("read", x.read(), 0);
        C.yes("cut", x.cut(8191));
        C.no("feed of 2 behind 8191", x.feed(2, 0));
        C.yes("feed of 1 behind 8191", x.feed(1, 0));
    }

    // ---- promise 14

    private static void cutFirstBytes() {
        C.sentence("cut: The FILE has its first n bytes alone.");
        Use x = new Use();
        x.feed(8, 0x0102030405060708L);
        C.yes("cut 8 of 8", x.cut(8));
        C.due("size", x.size(), 8);
        C.due("byteAt 7", x.byteAt(7), 8);
        C.yes("cut 5", x.cut(5));
        C.due("size", x.size(), 5);
        C.due("byteAt 4", x.byteAt(4), 5);
        C.due("byteAt 5", x.byteAt(5), -1);
        C.yes("feed", x.feed(2, 0));
        C.due("byteAt 5", x.byteAt(5), 0);
        C.due("byteAt 7", x.byteAt(7), -1);
        C.yes("cut 0", x.cut(0));
        C.due("size", x.size(), 0);
        C.due("byteAt 0", x.byteAt(0), -1);
        C.yes("cut 0 of none", x.cut(0));
    }

    private static void cutRefused() {
        C.sentence("cut: False, refused, when n isn't 0 .. how many there are.");
        Use x = new Use();
        C.no("cut 1 of none", x.cut(1));
        C.no("cut -1 of none", x.cut(-1));
        x.feed(8, 0x0102030405060708L);
        for (int n : new int[] {LEAST, -8, -1, 9, 10, 8192, 8193, MOST}) {
            C.no("cut " + n, x.cut(n));
        }
        C.due("size", x.size(), 8);
        C.due("byteAt 7", x.byteAt(7), 8);
        x.cut(6);
        C.no("cut 7 of 6", x.cut(7));
        C.no("cut 8 of 6", x.cut(8));
        C.due("size", x.size(), 6);
        Use y = Big.made(Big.relocationsFor(8192));
        y.write();
        C.no("cut 8193 of 8192", y.cut(8193));
        C.yes("cut 8192 of 8192", y.cut(8192));
        C.due("size", y.size(), 8192);
        C.yes("cut 8191 of 8192", y.cut(8191));
        C.no("cut 8192 of 8191", y.cut(8192));
    }

    // ---- promise 15

    private static void spoilLowestEightBits() {
        C.sentence("spoil: Byte k of the FILE becomes the lowest eight bits of b: what it was.");
        Use x = new Use();
        x.feed(3, 0x01FF800000000000L);
        C.due("spoil 0", x.spoil(0, 2), 1);
        C.due("spoil 1", x.spoil(1, 0), 255);
        C.due("spoil 2", x.spoil(2, 127), 128);
        int was = 127;
        for (int b : new int[] {LEAST, -1, -256, 0, 255, 256, 0x12345, 0x7FFFFF80, MOST, 511}) {
            C.due("spoil 2 by " + b, x.spoil(2, b), was);
            was = b & 255;
            C.due("byteAt 2", x.byteAt(2), was);
        }
        C.due("byteAt 0", x.byteAt(0), 2);
        C.due("byteAt 1", x.byteAt(1), 0);
        C.due("size", x.size(), 3);
    }

    private static void spoilRefused() {
        C.sentence("spoil: NONE, refused, when there is none.");
        Use x = new Use();
        C.due("spoil 0 of none", x.spoil(0, 5), -1);
        C.due("byteAt 0 of none", x.byteAt(0), -1);
        x.feed(3, 0x0102030000000000L);
        for (int k : new int[] {LEAST, -1, 3, 4, 8191, 8192, MOST}) {
            C.due("spoil " + k, x.spoil(k, 9), -1);
        }
        C.due("size", x.size(), 3);
        x.cut(2);
        C.due("spoil 2 behind cut", x.spoil(2, 9), -1);
        x.feed(1, 0);
        C.due("byteAt 2", x.byteAt(2), 0);
        C.due("spoil 2", x.spoil(2, 9), 0);
        Use y = Big.made(Big.relocationsFor(8192));
        y.write();
        C.due("spoil 8192", y.spoil(8192, 9), -1);
        C.due("spoil 8191", y.spoil(8191, 9), 0);
        C.due("byteAt 8191", y.byteAt(8191), 9);
    }

    // ---- promise 16

    private static void readAnswers() {
        C.sentence("read: Reads the FILE: 0, or the FAULT.");
        Use x = new Use();
        C.due("read of none", x.read(), 1);
        x.write();
        C.due("read", x.read(), 0);
        C.due("read again", x.read(), 0);
        x.spoil(0, 0);
        C.due("read", x.read(), 2);
        C.due("read again", x.read(), 2);
        x.spoil(0, 127);
        C.due("read", x.read(), 0);
        x.spoil(36, 1);
        C.due("read", x.read(), 34);
    }

    private static void readIsSample(Use x) {
        C.due("section 0 0", x.section(0, 0), 6);
        C.due("section 0 1", x.section(0, 1), 4);
        C.due("section 1 0", x.section(1, 0), 2);
        C.due("section 1 1", x.section(1, 1), 8);
        C.due("section 2 0", x.section(2, 0), 0);
        C.due("section 2 1", x.section(2, 1), 1);
        C.due("section 3 0", x.section(3, 0), 5);
        C.due("section 3 1", x.section(3, 1), 16);
        C.due("at 0 0", x.at(0, 0), 0x13);
        C.due("at 0 4", x.at(0, 4), 1);
        C.due("at 1 1", x.at(1, 1), 0x69);
        int[] counts = {2, 3, 2, 1};
        for (int what = 0; what < 4; what++) {
            C.due("count " + what, x.count(what), counts[what]);
        }
        C.due("startAt 1", x.startAt(1), 4);
        int[][] symbols = {{1, 0, 2, 0, 1, 3, 'a', 'i', 'n', -1}, {0, 0, 6, 1, 2, 4, 'm', 'a', 'i', 'n', -1}, {-1, 0, 0, 2, 0, 1, 'n', -1}};
        for (int k = 0; k < 3; k++) {
            for (int what = 0; what < symbols[k].length; what++) {
                C.due("symbolAt " + k + " " + what, x.symbolAt(k, what), symbols[k][what]);
            }
        }
        int[][] relocations = {{0, 0, 17, 2, 7}, {0, 4, 44, 0, -2}};
        for (int k = 0; k < 2; k++) {
            for (int what = 0; what < 5; what++) {
                C.due("relocationAt " + k + " " + what, x.relocationAt(k, what), relocations[k][what]);
            }
        }
    }

    private static void readTakesWhatTheFileTells() {
        C.sentence("Without a FAULT the READ object is what the file tells: symbols numbered as they stand, from the second 16 bytes on; relocations as they were looked at.");
        Use x = new Use().load(Sample.file());
        C.due("read", x.read(), 0);
        readIsSample(x);
        Use y = new Use();
        y.put(2, 1, 0);
        y.align(2, 5);
        y.start(0);
        y.put(0, 8, 0);
        y.write();
        y.read();
        y.load(Sample.file());
        C.due("read behind another", y.read(), 0);
        readIsSample(y);
        y.clear();
        y.write();
        C.due("read of the empty one", y.read(), 0);
        for (int what = 0; what < 4; what++) {
            C.due("count " + what, y.count(what), 0);
            C.due("section " + what, y.section(what, 0), 0);
            C.due("section " + what, y.section(what, 1), 1);
        }
    }

    private static final int[] LENGTHS = {9, 10, 11, 12};
    private static final String[] NAMES = {"x.1", "~", "0123456789abcdef", "!", "x.1"};
    private static final int[][] SYMBOLS = {{4, LEAST, 3, 0, 1}, {3, 12, 0, 0, 2}, {0, 1, 8, 1, 0}, {5, 16, 4000, 1, 1}, {-1, 0, 0, 2, 2}};
    private static final int[][] RELOCATIONS = {{0, 0, 51, -1, -9}, {0, 1, 19, 4, 8}, {0, 3, 43, -1, 6}, {1, 6, 39, 1, 2}, {2, 10, 37, 0, MOST}};

    private static void makeSomeOfAll(Use x) {
        for (int s = 0; s < 3; s++) {
            for (int k = 0; k < LENGTHS[s]; k++) {
                x.put(s, 1, (long) (16 * s + k) << 56);
            }
        }
        x.bss(12);
        for (int s = 0; s < 4; s++) {
            x.align(s, 6 - s);
        }
        x.start(2);
        x.start(4);
        x.start(8);
        for (int k = 0; k < SYMBOLS.length; k++) {
            int[] y = SYMBOLS[k];
            x.letters(NAMES[k]).symbol(y[0], y[1], y[2], y[3], y[4]);
        }
        for (int[] r : RELOCATIONS) {
            x.relocation(r[0], r[1], r[2], r[3], r[4]);
        }
    }

    private static void sectionsAndStartsAsTheyWere(Use x) {
        for (int s = 0; s < 4; s++) {
            C.due("section " + s + " 0", x.section(s, 0), LENGTHS[s]);
            C.due("section " + s + " 1", x.section(s, 1), 64 >> s);
            for (int k = 0; k < LENGTHS[s]; k++) {
                C.due("at " + s + " " + k, x.at(s, k), s == 3 ? -1 : 16 * s + k);
            }
        }
        C.due("startAt 0", x.startAt(0), 2);
        C.due("startAt 1", x.startAt(1), 4);
        C.due("startAt 2", x.startAt(2), 8);
    }

    private static void symbolsAndRelocationsAsTheyWere(Use x) {
        for (int k = 0; k < SYMBOLS.length; k++) {
            for (int what = 0; what < 5; what++) {
                C.due("symbolAt " + k + " " + what, x.symbolAt(k, what), SYMBOLS[k][what]);
            }
            C.due("how long", x.symbolAt(k, 5), NAMES[k].length());
            for (int i = 0; i < NAMES[k].length(); i++) {
                C.due("character " + i, x.symbolAt(k, 6 + i), NAMES[k].charAt(i));
            }
        }
        for (int k = 0; k < RELOCATIONS.length; k++) {
            for (int what = 0; what < 5; what++) {
                C.due("relocationAt " + k + " " + what, x.relocationAt(k, what), RELOCATIONS[k][what]);
            }
        }
    }

    private static void writtenIsReadAsItWas() {
        C.sentence("what was written is read as it was");
        Use x = Use.after(FileTest::makeSomeOfAll);
        int n = x.write();
        C.due("read", x.read(), 0);
        int[] counts = {3, SYMBOLS.length, RELOCATIONS.length, 3};
        for (int what = 0; what < 4; what++) {
            C.due("count " + what, x.count(what), counts[what]);
        }
        sectionsAndStartsAsTheyWere(x);
        symbolsAndRelocationsAsTheyWere(x);
        x.keep();
        C.due("write of what was read", x.write(), n);
    }

    private static void readWithAFaultItStays() {
        C.sentence("With one it stays.");
        Use x = new Use().load(Sample.file());
        C.due("read", x.read(), 0);
        x.zeros(0, 12).zeros(1, 12).zeros(2, 12);
        x.start(2);
        x.symbol("z", 0, 1, 2, 1);
        x.relocation(0, 0, 1, 0, 0);
        int n = x.write();
        x.spoil(36, 0);
        C.due("read", x.read(), 34);
        readIsSample(x);
        x.spoil(36, 1);
        x.cut(n - 1);
        C.due("read", x.read(), 10);
        readIsSample(x);
        x.cut(0);
        C.due("read", x.read(), 1);
        readIsSample(x);
        x.keep();
        C.due("write of what stayed", x.write(), Sample.file().length);
    }

    private static void readLeavesTheRest() {
        C.sentence("read: Reads the FILE (which stays, as do the MADE object and the draft)");
        Use.sameFile(C, x -> {
            x.load(Sample.file());
            x.read();
        }, Sample.file());
        byte[] spoiled = new Spoiled(C, Sample.file()).set(36, 1, 0).row();
        Use.sameFile(C, x -> {
            x.load(spoiled);
            x.read();
        }, spoiled);
        Use x = new Use().load(Sample.file());
        x.put(0, 3, 0);
        x.symbol("a", 4, 0, 0, 1);
        x.letter('b');
        x.read();
        C.due("the draft stays", x.symbol(4, 0, 0, 1, 0), 1);
        x.write();
        x.read();
        C.due("section 0 0", x.section(0, 0), 3);
        C.due("count 1", x.count(1), 2);
    }

    // ---- promise 17

    private static void placeOfTheLatest() {
        C.sentence("place: The PLACE of the latest read()'s FAULT");
        Use x = new Use();
        x.feed(5, 0);
        x.read();
        C.due("place", x.place(), 5);
        C.due("place again", x.place(), 5);
        x.write();
        C.due("place behind write", x.place(), 5);
        x.spoil(44, 1);
        C.due("place behind spoil", x.place(), 5);
        x.read();
        C.due("place", x.place(), 44);
        x.spoil(18, 0);
        x.read();
        C.due("place", x.place(), 18);
        x.cut(0);
        x.clear();
        x.keep();
        C.due("place behind cut, clear and keep", x.place(), 18);
        x.read();
        C.due("place", x.place(), 0);
    }

    private static void placeNone() {
        C.sentence("place: NONE when it had none, or there was none.");
        Use x = new Use();
        C.due("there was none", x.place(), -1);
        x.feed(1, 0);
        C.due("there was none", x.place(), -1);
        x.read();
        C.due("place", x.place(), 1);
        x.write();
        x.read();
        C.due("it had none", x.place(), -1);
    }

    // ---- promise 18

    private static void keepIsTheReadOne() {
        C.sentence("keep: The MADE object is the READ one");
        Use.sameFile(C, x -> {
            x.load(Sample.file());
            x.read();
            // what was made before is gone
            x.zeros(0, 9).zeros(1, 9).zeros(2, 9);
            x.bss(99);
            x.align(0, 6);
            x.align(2, 6);
            x.start(6);
            x.symbol("q", 4, 0, 0, 1);
            x.symbol("r", 4, 0, 0, 0);
            x.relocation(0, 0, 1, 0, 0);
            x.keep();
            x.write();
        }, Sample.file());
        Use x = new Use().load(Sample.file());
        x.read();
        x.keep();
        C.no("the latest START is 4", x.start(4));
        C.yes("one above", x.start(6));
        C.due("a name that is taken", x.symbol("main", 4, 0, 0, 2), -1);
        C.due("a name that a local one has", x.symbol("ain", 4, 0, 0, 2), 3);
        C.due("one more relocation", x.relocation(0, 0, 1, 3, 0), 2);
        C.due("a symbol that isn't there", x.relocation(0, 0, 1, 4, 0), -1);
        x.put(0, 1, -1L);
        x.put(1, 1, -1L);
        x.write();
        C.due("read", x.read(), 0);
        C.due("section 0 0", x.section(0, 0), 7);
        C.due("at 0 6", x.at(0, 6), 255);
        C.due("at 0 4", x.at(0, 4), 1);
        C.due("at 1 2", x.at(1, 2), 255);
        C.due("count 0", x.count(0), 3);
        C.due("count 1", x.count(1), 4);
        C.due("count 2", x.count(2), 3);
    }

    private static void keepOfTheEmptyOne() {
        C.sentence("keep: The MADE object is the READ one (also when that is empty)");
        Use x = Use.after(Sample::make);
        x.keep();
        C.due("write", x.write(), 444);
        C.yes("start 0", x.start(0));
        C.due("symbol", x.symbol("main", 4, 0, 0, 1), 0);
        C.due("relocation", x.relocation(0, 0, 51, -1, 0), 0);
    }

    private static void keepLeavesTwoObjects() {
        C.sentence("keep: The MADE object is the READ one (and what is made then is not read)");
        Use x = new Use().load(Sample.file());
        x.read();
        x.keep();
        readIsSample(x);
        x.put(0, 8, -1L);
        x.bss(77);
        x.align(0, 6);
        x.start(6);
        x.symbol("q", 4, 0, 0, 0);
        x.relocation(0, 0, 1, 0, 0);
        readIsSample(x);
        x.clear();
        readIsSample(x);
        x.keep();
        C.due("keep again", x.write(), Sample.file().length);
    }

    private static void keepDraft() {
        C.sentence("keep: the draft is empty");
        Use x = new Use().letters("0123456789abcdef");
        x.keep();
        C.due("symbol", x.symbol(4, 0, 0, 0, 0), -1);
        x.letters("y");
        x.keep();
        C.due("symbol", x.symbol("z", 4, 0, 0, 0), 0);
        x.write();
        x.read();
        C.due("how long", x.symbolAt(0, 5), 1);
        C.due("its name", x.symbolAt(0, 6), 'z');
    }
}
