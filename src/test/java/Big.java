/**
 * The way to a FILE of 8192 bytes within 512 calls. Calls that bring bytes (at most 12 each) are too few; but the
 * bytes 0 that fill up to an alignment of 64 come by themselves, and are the section's own when its entry is told to
 * be longer and the FILE is read and kept.
 */
final class Big {
    private static final int ROUNDS_FOR_DATA = 16;
    private static final int ROUNDS = 28;
    /** The bytes of the FILE without relocations. */
    private static final int WITHOUT = 6440;

    private Big() {
    }

    /** How many relocations bring the FILE to so many bytes. */
    static int relocationsFor(int bytes) {
        return (bytes - WITHOUT) / 12;
    }

    /** An object whose FILE, when written, has 6440 + 12 * relocations (3 or more) bytes; .text has 1799, .data 2048. */
    static Use made(int relocations) {
        Use x = new Use();
        for (int s = 0; s < 3; s++) {
            x.align(s, 6);
        }
        x.put(0, 8, 0);
        x.put(1, 8, 0);
        for (int round = 1; round < ROUNDS_FOR_DATA; round++) {
            grow(x, round);
        }
        moveAllToData(x);
        for (int round = 1; round <= ROUNDS; round++) {
            grow(x, round);
        }
        x.start(0);
        x.symbol("a", 4, 0, 0, 0);
        x.relocation(1, 0, 33, 0, 0);
        x.relocation(2, 0, 33, 0, 0);
        for (int k = 2; k < relocations; k++) {
            x.relocation(0, 0, 51, -1, 0);
        }
        return x;
    }

    /** .text and .rodata have 64 bytes more. One byte of the length tells it, so that 255 stands for the next 0. */
    private static void grow(Use x, int round) {
        int table = x.write() - 8 * 40;
        int low = round % 4 == 0 ? 255 : 64 * round & 255;
        x.spoil(table + 40 + 20, low);
        x.spoil(table + 80 + 20, low);
        readAndGoOn(x);
    }

    /** .text and .rodata, 1024 bytes each as they lie, are .data, which was empty. */
    private static void moveAllToData(Use x) {
        int table = x.write() - 8 * 40;
        x.spoil(table + 40 + 20, 0);
        x.spoil(table + 40 + 21, 0);
        x.spoil(table + 80 + 20, 0);
        x.spoil(table + 80 + 21, 0);
        x.spoil(table + 120 + 17, 0);
        x.spoil(table + 120 + 21, 8);
        readAndGoOn(x);
    }

    private static void readAndGoOn(Use x) {
        if (x.read() != 0) {
            throw new IllegalStateException("the FILE on the way has a fault");
        }
        x.keep();
        x.put(0, 8, 0);
        x.put(1, 8, 0);
    }
}
