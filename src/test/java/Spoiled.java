import java.util.Arrays;

/** A file as a row of bytes, changed before it is read. */
final class Spoiled {
    private final Check c;
    private final byte[] row;

    Spoiled(Check c, byte[] row) {
        this.c = c;
        this.row = row;
    }

    byte[] row() {
        return row;
    }

    Spoiled cut(int n) {
        return new Spoiled(c, Arrays.copyOf(row, n));
    }

    Spoiled set(int at, int bytes, long number) {
        for (int k = 0; k < bytes; k++) {
            row[at + k] = (byte) (number >> 8 * k);
        }
        return this;
    }

    long get(int at) {
        return row[at] & 255 | (row[at + 1] & 255) << 8 | (row[at + 2] & 255) << 16 | (row[at + 3] & 255L) << 24;
    }

    /** Where the number of entry e stands. */
    int spot(int e, int number) {
        return (int) get(32) + 40 * e + 4 * number;
    }

    long number(int e, int number) {
        return get(spot(e, number));
    }

    Spoiled entry(int e, int number, long to) {
        return set(spot(e, number), 4, to);
    }

    void due(String what, int fault, int place) {
        Use x = new Use().load(row);
        c.due(what + ": read", x.read(), fault);
        c.due(what + ": place", x.place(), place);
    }

    void sound(String what) {
        due(what, 0, -1);
    }
}
