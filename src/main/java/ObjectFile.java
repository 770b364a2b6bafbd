import java.util.Arrays;

/** Relocatable objects for a 32-bit machine: made by calls, written as a file, read with the first fault. */
public final class ObjectFile {
    public static final int NONE = -1;

    private static final int SECTION_MOST = 2048;
    private static final int BSS_MOST = 4096;
    private static final int COMMON_MOST = 4096;
    private static final int ALIGNMENT_MOST = 64;
    private static final int START_MOST = 1024;
    private static final int SYMBOL_MOST = 100;
    private static final int NAME_MOST = 16;
    private static final int RELOCATION_MOST = 300;
    private static final int FILE_MOST = 8192;
    private static final int ENTRY_MOST = 16;
    private static final int STRINGS_MOST = 1 + SYMBOL_MOST * (NAME_MOST + 1);

    // The parts of a file that have an entry. The first four are the sections.
    private static final int TEXT = 0;
    private static final int DATA = 2;
    private static final int BSS = 3;
    private static final int STARTS = 4;
    private static final int RELA = 5;
    private static final int SYMTAB = 8;
    private static final int STRTAB = 9;
    private static final int SHSTRTAB = 10;
    private static final int PARTS = 11;

    // By part: what its entry says in every file (the alignments of sections are their own).
    private static final int[] SORTS = {1, 1, 1, 8, 1, 4, 4, 4, 2, 3, 3};
    private static final int[] FLAGS = {6, 2, 3, 3, 0, 64, 64, 64, 0, 0, 0};
    private static final int[] ALIGNMENTS = {1, 1, 1, 1, 2, 4, 4, 4, 4, 1, 1};
    private static final int[] UNITS = {0, 0, 0, 0, 2, 12, 12, 12, 16, 0, 0};

    private static final int SORT_NO_BYTES = 8;
    private static final int SORT_STRINGS = 3;

    private static final int HEADER_BYTES = 52;
    private static final int ENTRY_BYTES = 40;
    private static final int SYMBOL_BYTES = 16;
    private static final int RELOCATION_BYTES = 12;
    private static final int START_BYTES = 2;
    private static final int[] MAGIC = {127, 69, 76, 70};
    private static final int OBJECT_SORT = 1;
    private static final int MACHINE = 243;
    private static final int TABLE_AT = 32;
    private static final int FLAGS_AT = 36;
    private static final int ENTRIES_AT = 48;
    private static final int NAMES_AT = 50;

    // The ten numbers of an entry.
    private static final int E_NAME = 0;
    private static final int E_SORT = 1;
    private static final int E_FLAGS = 2;
    private static final int E_ZERO = 3;
    private static final int E_BEGIN = 4;
    private static final int E_BYTES = 5;
    private static final int E_LINK = 6;
    private static final int E_INFO = 7;
    private static final int E_ALIGNMENT = 8;
    private static final int E_UNIT = 9;
    private static final int E_NUMBERS = 10;

    // What a symbol has, numbered as symbolAt() is asked.
    private static final int WHERE = 0;
    private static final int VALUE = 1;
    private static final int SIZE = 2;
    private static final int BIND = 3;
    private static final int TYPE = 4;
    private static final int NAME_LENGTH = 5;
    private static final int SYMBOL_FACTS = 6;

    // Two ints together stay below it.
    private static final long ANY_ROOM = 1L << 32;

    private static final int NOWHERE = -1;
    private static final int ABSOLUTE = 4;
    private static final int COMMON = 5;
    private static final int ABSOLUTE_IN_FILE = 65521;
    private static final int COMMON_IN_FILE = 65522;

    // What a relocation has, numbered as relocationAt() is asked.
    private static final int SECTION = 0;
    private static final int SPOT = 1;
    private static final int KIND = 2;
    private static final int SYMBOL = 3;
    private static final int ADDEND = 4;
    private static final int RELOCATION_FACTS = 5;

    private static final int KIND_ALIGN = 43;
    private static final int KIND_RELAX = 51;

    private final Contents made = new Contents();
    private final Contents seen = new Contents();
    private final FileBytes file = new FileBytes();
    private final Writer writer = new Writer(made, file);
    private final Finding finding = new Finding();
    private final Directory directory = new Directory(file, finding);
    private final Reader reader = new Reader(file, finding, directory);
    private final byte[] draft = new byte[NAME_MOST];
    private int draftLength;

    public ObjectFile() {
    }

    public void clear() {
        made.reset();
        draftLength = 0;
    }

    public boolean put(int s, int n, long eight) {
        return made.append(s, n, eight);
    }

    public boolean bss(int size) {
        if (size < 0 || size > BSS_MOST) {
            return false;
        }
        made.lengths[BSS] = size;
        return true;
    }

    public boolean align(int s, int power) {
        if (s < TEXT || s > BSS || power < 0 || power > 6) {
            return false;
        }
        made.alignments[s] = 1 << power;
        return true;
    }

    public boolean start(int at) {
        if (at < 0 || at >= SECTION_MOST || (at & 1) != 0) {
            return false;
        }
        return at > made.latestStart() && made.addStart(at);
    }

    public boolean letter(int c) {
        if (!isNameCharacter(c) || draftLength < 0 || draftLength >= NAME_MOST) {
            return false;
        }
        draft[draftLength] = (byte) c;
        draftLength++;
        return true;
    }

    public int symbol(int where, int value, int size, int bind, int type) {
        int length = draftLength;
        draftLength = 0;
        if (length == 0 || where < NOWHERE || where > COMMON || !isBindOrType(bind) || !isBindOrType(type)) {
            return NONE;
        }
        if (flawOf(where, value, size, bind, ANY_ROOM) != NONE) {
            return NONE;
        }
        if (bind != 0 && made.hasGlobal(draft, length)) {
            return NONE;
        }
        int k = made.addSymbol(draft, 0, length);
        made.tellSymbol(k, where, value, size, bind, type);
        return k;
    }

    public int relocation(int s, int at, int kind, int symbol, int addend) {
        if (!kindMayBeIn(s, kind) || !addendMayBe(kind, addend) || at < 0) {
            return NONE;
        }
        if (symbol < NONE || symbol >= made.symbolCount || hasSymbol(kind) != (symbol != NONE)) {
            return NONE;
        }
        return made.addRelocation(s, at, kind, symbol, addend);
    }

    public int write() {
        return writer.writeAll();
    }

    public int size() {
        return file.length;
    }

    public int byteAt(int k) {
        return file.has(k) ? file.u1(k) : NONE;
    }

    public boolean feed(int n, long eight) {
        return file.append(n, eight);
    }

    public boolean cut(int n) {
        if (n < 0 || n > file.length) {
            return false;
        }
        file.length = n;
        return true;
    }

    public int spoil(int k, int b) {
        if (!file.has(k)) {
            return NONE;
        }
        int was = file.u1(k);
        file.put1(k, b);
        return was;
    }

    public int read() {
        finding.spot = NONE;
        int fault = directory.firstFault();
        if (fault == 0) {
            fault = reader.firstFault();
        }
        if (fault == 0) {
            reader.fill(seen);
        }
        return fault;
    }

    public int place() {
        return finding.spot;
    }

    public void keep() {
        made.copyAll(seen);
        draftLength = 0;
    }

    public int section(int s, int what) {
        if (s < TEXT || s > BSS) {
            return NONE;
        }
        switch (what) {
            case 0:
                return seen.lengths[s];
            case 1:
                return seen.alignments[s];
            default:
                return NONE;
        }
    }

    public int at(int s, int k) {
        return seen.byteOf(s, k);
    }

    public int count(int what) {
        switch (what) {
            case 0:
                return seen.startCount;
            case 1:
                return seen.symbolCount;
            case 2:
                return seen.relocationCount;
            case 3:
                return seen.shortStarts();
            default:
                return NONE;
        }
    }

    public int startAt(int k) {
        return seen.startOf(k);
    }

    public int symbolAt(int k, int what) {
        return what < SYMBOL_FACTS ? seen.symbolFact(k, what) : seen.nameCharacter(k, what - SYMBOL_FACTS);
    }

    public int relocationAt(int k, int what) {
        return seen.relocationFact(k, what);
    }

    private static boolean isNameCharacter(int c) {
        return c >= 33 && c <= 126;
    }

    private static boolean isBindOrType(int number) {
        return number >= 0 && number <= 2;
    }

    private static boolean isAlignment(long number) {
        return number >= 1 && number <= ALIGNMENT_MOST && (number & (number - 1)) == 0;
    }

    /** VALUE, SIZE or BIND, the first of a symbol that can't be; NONE if all can. The room is its section's size. */
    private static int flawOf(int where, int value, int size, int bind, long room) {
        switch (where) {
            case NOWHERE:
                return firstFlaw(value == 0, size == 0, bind != 0);
            case ABSOLUTE:
                return firstFlaw(true, size >= 0, true);
            case COMMON:
                return firstFlaw(isAlignment(value), size >= 1 && size <= COMMON_MOST, bind == 1);
            default:
                return firstFlaw(value >= 0 && value <= room, size >= 0 && (long) value + size <= room, true);
        }
    }

    private static int firstFlaw(boolean valueMayBe, boolean sizeMayBe, boolean bindMayBe) {
        if (!valueMayBe) {
            return VALUE;
        }
        if (!sizeMayBe) {
            return SIZE;
        }
        return bindMayBe ? NONE : BIND;
    }

    /** How many bytes a relocation of the kind covers; NONE when there is no such kind. */
    private static int widthOf(int kind, int addend) {
        switch (kind) {
            case KIND_RELAX:
                return 0;
            case 33: case 37:
                return 1;
            case 34: case 38: case 44: case 45:
                return 2;
            case 1: case 16: case 17: case 23: case 24: case 25: case 26: case 27: case 28: case 35: case 39:
                return 4;
            case 19:
                return 8;
            case KIND_ALIGN:
                return addend;
            default:
                return NONE;
        }
    }

    private static boolean kindMayBeIn(int s, int kind) {
        switch (kind) {
            case 1: case 33: case 34: case 35: case 37: case 38: case 39:
                return s >= TEXT && s <= DATA;
            default:
                return s == TEXT && widthOf(kind, 0) != NONE;
        }
    }

    private static boolean addendMayBe(int kind, int addend) {
        return kind != KIND_ALIGN || addend >= 0 && addend <= 62 && (addend & 1) == 0;
    }

    private static boolean hasSymbol(int kind) {
        return kind != KIND_ALIGN && kind != KIND_RELAX;
    }

    private static String labelOf(int part) {
        switch (part) {
            case 0:
                return ".text";
            case 1:
                return ".rodata";
            case 2:
                return ".data";
            case 3:
                return ".bss";
            case 4:
                return ".starts";
            case 5:
                return ".rela.text";
            case 6:
                return ".rela.rodata";
            case 7:
                return ".rela.data";
            case 8:
                return ".symtab";
            case 9:
                return ".strtab";
            default:
                return ".shstrtab";
        }
    }

    private static boolean isShort(int firstByte) {
        return (firstByte & 3) != 3;
    }

    private static boolean isRela(int part) {
        return part >= RELA && part < SYMTAB;
    }

    /** What an object holds, whether MADE or READ. All rows are made once, so that no call makes any. */
    private static final class Contents {
        private final byte[] bytes = new byte[BSS * SECTION_MOST];
        private final int[] lengths = new int[BSS + 1];
        private final int[] alignments = {1, 1, 1, 1};
        private final int[] starts = new int[START_MOST];
        private int startCount;
        private final int[] symbols = new int[SYMBOL_MOST * SYMBOL_FACTS];
        private final byte[] names = new byte[SYMBOL_MOST * NAME_MOST];
        private int symbolCount;
        private final int[] relocations = new int[RELOCATION_MOST * RELOCATION_FACTS];
        private int relocationCount;

        private void reset() {
            Arrays.fill(lengths, 0);
            Arrays.fill(alignments, 1);
            startCount = 0;
            symbolCount = 0;
            relocationCount = 0;
        }

        private void copyAll(Contents other) {
            System.arraycopy(other.bytes, 0, bytes, 0, bytes.length);
            System.arraycopy(other.lengths, 0, lengths, 0, lengths.length);
            System.arraycopy(other.alignments, 0, alignments, 0, alignments.length);
            System.arraycopy(other.starts, 0, starts, 0, starts.length);
            System.arraycopy(other.symbols, 0, symbols, 0, symbols.length);
            System.arraycopy(other.names, 0, names, 0, names.length);
            System.arraycopy(other.relocations, 0, relocations, 0, relocations.length);
            startCount = other.startCount;
            symbolCount = other.symbolCount;
            relocationCount = other.relocationCount;
        }

        private boolean append(int s, int n, long eight) {
            if (s < TEXT || s > DATA || n < 1 || n > 8 || lengths[s] + n > SECTION_MOST) {
                return false;
            }
            for (int k = 0; k < n; k++) {
                bytes[s * SECTION_MOST + lengths[s]] = (byte) (eight >>> (56 - 8 * k));
                lengths[s]++;
            }
            return true;
        }

        private int byteOf(int s, int k) {
            if (s < TEXT || s > DATA || k < 0 || k >= lengths[s]) {
                return NONE;
            }
            return bytes[s * SECTION_MOST + k] & 255;
        }

        private int startOf(int k) {
            return k < 0 || k >= startCount ? NONE : starts[k];
        }

        private int latestStart() {
            return startOf(startCount - 1);
        }

        private boolean addStart(int at) {
            if (startCount < 0 || startCount >= START_MOST) {
                return false;
            }
            starts[startCount] = at;
            startCount++;
            return true;
        }

        private int shortStarts() {
            int found = 0;
            for (int k = 0; k < startCount; k++) {
                if (isShort(byteOf(TEXT, startOf(k)))) {
                    found++;
                }
            }
            return found;
        }

        private int symbolFact(int k, int what) {
            if (k < 0 || k >= symbolCount || what < 0 || what >= SYMBOL_FACTS) {
                return NONE;
            }
            return symbols[k * SYMBOL_FACTS + what];
        }

        private int nameCharacter(int k, int i) {
            return i < 0 || i >= symbolFact(k, NAME_LENGTH) ? NONE : names[k * NAME_MOST + i];
        }

        /** One more symbol, with its name alone: its number; NONE when there is no room. */
        private int addSymbol(byte[] from, int begin, int n) {
            if (symbolCount < 0 || symbolCount >= SYMBOL_MOST || n < 1 || n > NAME_MOST) {
                return NONE;
            }
            if (begin < 0 || begin > from.length - n) {
                return NONE;
            }
            int k = symbolCount;
            symbolCount++;
            System.arraycopy(from, begin, names, k * NAME_MOST, n);
            symbols[k * SYMBOL_FACTS + NAME_LENGTH] = n;
            return k;
        }

        private void tellSymbol(int k, int where, int value, int size, int bind, int type) {
            if (k < 0 || k >= symbolCount) {
                return;
            }
            int first = k * SYMBOL_FACTS;
            symbols[first + WHERE] = where;
            symbols[first + VALUE] = value;
            symbols[first + SIZE] = size;
            symbols[first + BIND] = bind;
            symbols[first + TYPE] = type;
        }

        private boolean hasGlobal(byte[] name, int n) {
            for (int k = 0; k < symbolCount; k++) {
                if (symbolFact(k, BIND) != 0 && hasName(k, name, n)) {
                    return true;
                }
            }
            return false;
        }

        private boolean hasName(int k, byte[] name, int n) {
            if (symbolFact(k, NAME_LENGTH) != n || n > name.length) {
                return false;
            }
            for (int i = 0; i < n; i++) {
                if (nameCharacter(k, i) != name[i]) {
                    return false;
                }
            }
            return true;
        }

        private int relocationFact(int k, int what) {
            if (k < 0 || k >= relocationCount || what < 0 || what >= RELOCATION_FACTS) {
                return NONE;
            }
            return relocations[k * RELOCATION_FACTS + what];
        }

        private int addRelocation(int s, int spot, int kind, int symbol, int addend) {
            if (relocationCount < 0 || relocationCount >= RELOCATION_MOST) {
                return NONE;
            }
            int k = relocationCount;
            relocationCount++;
            int first = k * RELOCATION_FACTS;
            relocations[first + SECTION] = s;
            relocations[first + SPOT] = spot;
            relocations[first + KIND] = kind;
            relocations[first + SYMBOL] = symbol;
            relocations[first + ADDEND] = addend;
            return k;
        }

        private int relocationsOf(int s) {
            int found = 0;
            for (int k = 0; k < relocationCount; k++) {
                if (relocationFact(k, SECTION) == s) {
                    found++;
                }
            }
            return found;
        }

        private boolean startGoesBeyond() {
            return latestStart() >= lengths[TEXT];
        }

        private boolean symbolGoesBeyond() {
            for (int k = 0; k < symbolCount; k++) {
                int where = symbolFact(k, WHERE);
                if (where >= TEXT && where <= BSS
                        && (long) symbolFact(k, VALUE) + symbolFact(k, SIZE) > lengths[where]) {
                    return true;
                }
            }
            return false;
        }

        private boolean relocationGoesBeyond() {
            for (int k = 0; k < relocationCount; k++) {
                int s = relocationFact(k, SECTION);
                int width = widthOf(relocationFact(k, KIND), relocationFact(k, ADDEND));
                if (s >= TEXT && s <= DATA && (long) relocationFact(k, SPOT) + width > lengths[s]) {
                    return true;
                }
            }
            return false;
        }
    }

    /** The FILE. A number that goes beyond it is taken for 0, and putting one there does nothing. */
    private static final class FileBytes {
        private final byte[] row = new byte[FILE_MOST];
        private int length;

        private boolean has(int at) {
            return at >= 0 && at < length;
        }

        private int u1(int at) {
            return at < 0 || at >= length ? 0 : row[at] & 255;
        }

        private int u2(int at) {
            return at < 0 || at >= length - 1 ? 0 : row[at] & 255 | (row[at + 1] & 255) << 8;
        }

        private long u4(int at) {
            if (at < 0 || at >= length - 3) {
                return 0;
            }
            int low = row[at] & 255 | (row[at + 1] & 255) << 8;
            int high = row[at + 2] & 255 | (row[at + 3] & 255) << 8;
            return (long) high << 16 | low;
        }

        private void put1(int at, int number) {
            if (at >= 0 && at < length) {
                row[at] = (byte) number;
            }
        }

        private void put2(int at, int number) {
            if (at >= 0 && at < length - 1) {
                row[at] = (byte) number;
                row[at + 1] = (byte) (number >>> 8);
            }
        }

        private void put4(int at, int number) {
            if (at >= 0 && at < length - 3) {
                row[at] = (byte) number;
                row[at + 1] = (byte) (number >>> 8);
                row[at + 2] = (byte) (number >>> 16);
                row[at + 3] = (byte) (number >>> 24);
            }
        }

        private boolean append(int n, long eight) {
            if (n < 1 || n > 8 || length + n > FILE_MOST) {
                return false;
            }
            for (int k = 0; k < n; k++) {
                row[length] = (byte) (eight >>> (56 - 8 * k));
                length++;
            }
            return true;
        }

        private void zeros(int n) {
            if (n < 0 || n > FILE_MOST) {
                return;
            }
            Arrays.fill(row, 0, n, (byte) 0);
            length = n;
        }

        private void copyIn(byte[] from, int begin, int at, int n) {
            if (n > 0 && begin >= 0 && begin <= from.length - n && at >= 0 && at <= length - n) {
                System.arraycopy(from, begin, row, at, n);
            }
        }

        private void copyOut(int at, byte[] to, int begin, int n) {
            if (n > 0 && begin >= 0 && begin <= to.length - n && at >= 0 && at <= length - n) {
                System.arraycopy(row, at, to, begin, n);
            }
        }
    }

    /** Names one after the other, each at the least place where it stands with a 0 behind. */
    private static final class Strings {
        private final byte[] row = new byte[STRINGS_MOST];
        private int length;

        private void restart() {
            row[0] = 0;
            length = 1;
        }

        private int placeOf(byte[] from, int begin, int n) {
            if (n < 1 || begin < 0 || begin > from.length - n) {
                return 0;
            }
            for (int p = 1; p < length - n; p++) {
                if (row[p + n] == 0 && standsAt(p, from, begin, n)) {
                    return p;
                }
            }
            return putBehind(from, begin, n);
        }

        private boolean standsAt(int p, byte[] from, int begin, int n) {
            for (int i = 0; i < n; i++) {
                if (row[p + i] != from[begin + i]) {
                    return false;
                }
            }
            return true;
        }

        private int putBehind(byte[] from, int begin, int n) {
            if (length + n + 1 > STRINGS_MOST) {
                return 0;
            }
            int p = length;
            System.arraycopy(from, begin, row, p, n);
            row[p + n] = 0;
            length = p + n + 1;
            return p;
        }
    }

    /** Lays the MADE object down as the FILE. */
    private static final class Writer {
        private final Contents from;
        private final FileBytes file;
        private final Strings names = new Strings();
        private final Strings labels = new Strings();
        private final byte[] word = new byte[NAME_MOST];
        private final int[] entryOf = new int[PARTS];
        private final int[] labelAt = new int[PARTS];
        private final int[] beginOf = new int[PARTS];
        private final int[] lengthOf = new int[PARTS];
        private final int[] order = new int[SYMBOL_MOST];
        private final int[] numberOf = new int[SYMBOL_MOST];
        private final int[] nameAt = new int[SYMBOL_MOST];
        private int locals;
        private int entries;
        private int table;

        private Writer(Contents from, FileBytes file) {
            this.from = from;
            this.file = file;
        }

        private int writeAll() {
            if (from.startGoesBeyond()) {
                return -1;
            }
            if (from.symbolGoesBeyond()) {
                return -2;
            }
            if (from.relocationGoesBeyond()) {
                return -3;
            }
            orderSymbols();
            gatherNames();
            measureParts();
            numberEntries();
            layParts();
            int total = table + ENTRY_BYTES * entries;
            if (total > FILE_MOST) {
                return -4;
            }
            file.zeros(total);
            putHeader();
            putParts();
            putTable();
            return total;
        }

        private void orderSymbols() {
            int turn = 0;
            for (int k = 0; k < from.symbolCount; k++) {
                if (from.symbolFact(k, BIND) == 0) {
                    giveTurn(k, turn);
                    turn++;
                }
            }
            locals = turn;
            for (int k = 0; k < from.symbolCount; k++) {
                if (from.symbolFact(k, BIND) != 0) {
                    giveTurn(k, turn);
                    turn++;
                }
            }
        }

        private void giveTurn(int k, int turn) {
            if (turn < SYMBOL_MOST && k < SYMBOL_MOST) {
                order[turn] = k;
                numberOf[k] = turn + 1;
            }
        }

        private void gatherNames() {
            names.restart();
            for (int turn = 0; turn < from.symbolCount; turn++) {
                int k = order[turn];
                nameAt[turn] = names.placeOf(from.names, k * NAME_MOST, from.symbolFact(k, NAME_LENGTH));
            }
        }

        private void measureParts() {
            for (int s = TEXT; s <= BSS; s++) {
                lengthOf[s] = from.lengths[s];
            }
            lengthOf[STARTS] = START_BYTES * from.startCount;
            for (int s = TEXT; s <= DATA; s++) {
                lengthOf[RELA + s] = RELOCATION_BYTES * from.relocationsOf(s);
            }
            lengthOf[SYMTAB] = SYMBOL_BYTES * (1 + from.symbolCount);
            lengthOf[STRTAB] = names.length;
        }

        private boolean isThere(int part) {
            return part <= BSS || part >= SYMTAB || lengthOf[part] > 0;
        }

        private void numberEntries() {
            labels.restart();
            entries = 1;
            for (int part = 0; part < PARTS; part++) {
                entryOf[part] = 0;
                if (isThere(part)) {
                    entryOf[part] = entries;
                    entries++;
                    labelAt[part] = labels.placeOf(word, 0, spell(part));
                }
            }
            lengthOf[SHSTRTAB] = labels.length;
        }

        private int spell(int part) {
            String label = labelOf(part);
            int n = Math.min(label.length(), NAME_MOST);
            for (int i = 0; i < n; i++) {
                word[i] = (byte) label.charAt(i);
            }
            return n;
        }

        private void layParts() {
            int end = HEADER_BYTES;
            for (int part = 0; part < PARTS; part++) {
                if (part == BSS) {
                    beginOf[BSS] = end;
                } else if (isThere(part)) {
                    beginOf[part] = upTo(end, alignmentOf(part));
                    end = beginOf[part] + lengthOf[part];
                }
            }
            table = upTo(end, 4);
        }

        private int alignmentOf(int part) {
            return part <= BSS ? from.alignments[part] : ALIGNMENTS[part];
        }

        /** The alignment is a power of two. */
        private static int upTo(int end, int alignment) {
            return (end + alignment - 1) & -alignment;
        }

        private void putHeader() {
            for (int k = 0; k < MAGIC.length; k++) {
                file.put1(k, MAGIC[k]);
            }
            for (int k = 4; k <= 6; k++) {
                file.put1(k, 1);
            }
            file.put2(16, OBJECT_SORT);
            file.put2(18, MACHINE);
            file.put4(20, 1);
            file.put4(TABLE_AT, table);
            file.put4(FLAGS_AT, from.shortStarts() > 0 ? 1 : 0);
            file.put2(40, HEADER_BYTES);
            file.put2(46, ENTRY_BYTES);
            file.put2(ENTRIES_AT, entries);
            file.put2(NAMES_AT, entryOf[SHSTRTAB]);
        }

        private void putParts() {
            for (int s = TEXT; s <= DATA; s++) {
                file.copyIn(from.bytes, s * SECTION_MOST, beginOf[s], lengthOf[s]);
            }
            for (int k = 0; k < from.startCount; k++) {
                file.put2(beginOf[STARTS] + START_BYTES * k, from.startOf(k));
            }
            for (int s = TEXT; s <= DATA; s++) {
                putRelocations(s);
            }
            for (int turn = 0; turn < from.symbolCount; turn++) {
                putSymbol(turn);
            }
            file.copyIn(names.row, 0, beginOf[STRTAB], lengthOf[STRTAB]);
            file.copyIn(labels.row, 0, beginOf[SHSTRTAB], lengthOf[SHSTRTAB]);
        }

        private void putRelocations(int s) {
            int next = beginOf[RELA + s];
            for (int k = 0; k < from.relocationCount; k++) {
                if (from.relocationFact(k, SECTION) == s) {
                    int symbol = from.relocationFact(k, SYMBOL);
                    int number = symbol < 0 || symbol >= SYMBOL_MOST ? 0 : numberOf[symbol];
                    file.put4(next, from.relocationFact(k, SPOT));
                    file.put4(next + 4, 256 * number + from.relocationFact(k, KIND));
                    file.put4(next + 8, from.relocationFact(k, ADDEND));
                    next += RELOCATION_BYTES;
                }
            }
        }

        private void putSymbol(int turn) {
            int first = beginOf[SYMTAB] + SYMBOL_BYTES * (turn + 1);
            int k = order[turn];
            file.put4(first, nameAt[turn]);
            file.put4(first + 4, from.symbolFact(k, VALUE));
            file.put4(first + 8, from.symbolFact(k, SIZE));
            file.put1(first + 12, 16 * from.symbolFact(k, BIND) + from.symbolFact(k, TYPE));
            file.put2(first + 14, whereInFile(from.symbolFact(k, WHERE)));
        }

        private int whereInFile(int where) {
            switch (where) {
                case NOWHERE:
                    return 0;
                case ABSOLUTE:
                    return ABSOLUTE_IN_FILE;
                case COMMON:
                    return COMMON_IN_FILE;
                default:
                    return where >= TEXT && where <= BSS ? entryOf[where] : 0;
            }
        }

        private void putTable() {
            for (int part = 0; part < PARTS; part++) {
                if (isThere(part)) {
                    putEntry(part);
                }
            }
        }

        private void putEntry(int part) {
            int first = table + ENTRY_BYTES * entryOf[part];
            file.put4(first + 4 * E_NAME, labelAt[part]);
            file.put4(first + 4 * E_SORT, SORTS[part]);
            file.put4(first + 4 * E_FLAGS, FLAGS[part]);
            file.put4(first + 4 * E_BEGIN, beginOf[part]);
            file.put4(first + 4 * E_BYTES, lengthOf[part]);
            file.put4(first + 4 * E_LINK, linkOf(part));
            file.put4(first + 4 * E_INFO, infoOf(part));
            file.put4(first + 4 * E_ALIGNMENT, alignmentOf(part));
            file.put4(first + 4 * E_UNIT, UNITS[part]);
        }

        private int linkOf(int part) {
            return isRela(part) ? entryOf[SYMTAB] : part == SYMTAB ? entryOf[STRTAB] : 0;
        }

        private int infoOf(int part) {
            return isRela(part) ? entryOf[part - RELA] : part == SYMTAB ? 1 + locals : 0;
        }
    }

    /** Where the latest reading found its fault. */
    private static final class Finding {
        private int spot = NONE;

        private int tell(int fault, int spot) {
            this.spot = spot;
            return fault;
        }
    }

    /** The FILE's header and entries: faults 1 to 20, and, if there is none, where the parts are. */
    private static final class Directory {
        private final FileBytes file;
        private final Finding finding;
        private final int[] partOf = new int[ENTRY_MOST];
        private final int[] entryOf = new int[PARTS];
        private final int[] begins = new int[PARTS];
        private final int[] lengths = new int[PARTS];
        private final int[] alignments = new int[PARTS];
        private int table;
        private int entries;
        private int namesEntry;

        private Directory(FileBytes file, Finding finding) {
            this.file = file;
            this.finding = finding;
        }

        private long numberOf(int e, int which) {
            return file.u4(table + ENTRY_BYTES * e + 4 * which);
        }

        private int tellEntry(int fault, int e, int which) {
            return finding.tell(fault, table + ENTRY_BYTES * e + 4 * which);
        }

        /** The section whose entry it is; NONE when it is none's. */
        private int sectionOf(int e) {
            if (e < 1 || e >= entries || e >= ENTRY_MOST) {
                return NONE;
            }
            return partOf[e] <= BSS ? partOf[e] : NONE;
        }

        private int firstFault() {
            int fault = markFault();
            fault = fault != 0 ? fault : headerFault();
            fault = fault != 0 ? fault : entriesFault();
            fault = fault != 0 ? fault : stringsFault(15, namesEntry);
            fault = fault != 0 ? fault : labelsFault();
            fault = fault != 0 ? fault : numbersFault();
            fault = fault != 0 ? fault : missingFault();
            fault = fault != 0 ? fault : lengthsFault();
            fault = fault != 0 ? fault : stringsFault(20, entryOf[STRTAB]);
            if (fault == 0) {
                locateParts();
            }
            return fault;
        }

        private int markFault() {
            if (file.length < HEADER_BYTES) {
                return finding.tell(1, file.length);
            }
            for (int k = 0; k < MAGIC.length; k++) {
                if (file.u1(k) != MAGIC[k]) {
                    return finding.tell(2, k);
                }
            }
            for (int k = 4; k <= 6; k++) {
                if (file.u1(k) != 1) {
                    return finding.tell(k - 1, k);
                }
            }
            for (int k = 7; k <= 15; k++) {
                if (file.u1(k) != 0) {
                    return finding.tell(6, k);
                }
            }
            if (file.u2(16) != OBJECT_SORT) {
                return finding.tell(7, 16);
            }
            return file.u2(18) != MACHINE ? finding.tell(8, 18) : 0;
        }

        private int headerFault() {
            int wrong = wrongHeaderNumber();
            if (wrong != NONE) {
                return finding.tell(9, wrong);
            }
            entries = file.u2(ENTRIES_AT);
            namesEntry = file.u2(NAMES_AT);
            if (file.u4(TABLE_AT) + ENTRY_BYTES * entries > file.length) {
                return finding.tell(10, TABLE_AT);
            }
            table = (int) file.u4(TABLE_AT);
            return 0;
        }

        /** The place of the first number behind the machine's that can't be; NONE if all can. */
        private int wrongHeaderNumber() {
            if (file.u4(20) != 1) {
                return 20;
            }
            if (file.u4(24) != 0) {
                return 24;
            }
            if (file.u4(28) != 0) {
                return 28;
            }
            if (file.u4(TABLE_AT) < HEADER_BYTES || file.u4(TABLE_AT) % 4 != 0) {
                return TABLE_AT;
            }
            if (file.u4(FLAGS_AT) > 1) {
                return FLAGS_AT;
            }
            if (file.u2(40) != HEADER_BYTES) {
                return 40;
            }
            if (file.u2(42) != 0) {
                return 42;
            }
            if (file.u2(44) != 0) {
                return 44;
            }
            if (file.u2(46) != ENTRY_BYTES) {
                return 46;
            }
            return wrongEntryCount();
        }

        private int wrongEntryCount() {
            int many = file.u2(ENTRIES_AT);
            if (many < 1 || many > ENTRY_MOST) {
                return ENTRIES_AT;
            }
            int names = file.u2(NAMES_AT);
            return names < 1 || names >= many ? NAMES_AT : NONE;
        }

        private int entriesFault() {
            for (int which = 0; which < E_NUMBERS; which++) {
                if (numberOf(0, which) != 0) {
                    return tellEntry(11, 0, which);
                }
            }
            for (int e = 1; e < entries; e++) {
                int fault = entryFault(e);
                if (fault != 0) {
                    return fault;
                }
            }
            return 0;
        }

        private int entryFault(int e) {
            long sort = numberOf(e, E_SORT);
            boolean inFile = sort != SORT_NO_BYTES;
            if (inFile && (sort < 1 || sort > 4)) {
                return tellEntry(11, e, E_SORT);
            }
            long begin = numberOf(e, E_BEGIN);
            long bytes = numberOf(e, E_BYTES);
            if (inFile && (begin + bytes > file.length || bytes > 0 && begin < HEADER_BYTES)) {
                return tellEntry(12, e, E_BEGIN);
            }
            long alignment = numberOf(e, E_ALIGNMENT);
            if (!isAlignment(alignment) || inFile && (begin & (alignment - 1)) != 0) {
                return tellEntry(13, e, E_ALIGNMENT);
            }
            return inFile && bytes > 0 && sharesBytes(e, begin, begin + bytes) ? tellEntry(14, e, E_BEGIN) : 0;
        }

        /** Whether the TABLE or an entry before has some of the bytes of entry e. */
        private boolean sharesBytes(int e, long begin, long end) {
            if (begin < table + ENTRY_BYTES * entries && table < end) {
                return true;
            }
            for (int k = 1; k < e; k++) {
                long other = numberOf(k, E_BEGIN);
                long otherBytes = numberOf(k, E_SORT) == SORT_NO_BYTES ? 0 : numberOf(k, E_BYTES);
                if (otherBytes > 0 && begin < other + otherBytes && other < end) {
                    return true;
                }
            }
            return false;
        }

        private int stringsFault(int fault, int e) {
            if (numberOf(e, E_SORT) != SORT_STRINGS) {
                return tellEntry(fault, e, E_SORT);
            }
            int begin = (int) numberOf(e, E_BEGIN);
            int bytes = (int) numberOf(e, E_BYTES);
            if (bytes == 0) {
                return tellEntry(fault, e, E_BYTES);
            }
            if (file.u1(begin) != 0) {
                return finding.tell(fault, begin);
            }
            int last = begin + bytes - 1;
            return file.u1(last) != 0 ? finding.tell(fault, last) : 0;
        }

        private int labelsFault() {
            Arrays.fill(entryOf, 0);
            for (int e = 1; e < entries && e < ENTRY_MOST; e++) {
                int part = partNamedBy(e);
                if (part == NONE || entryOf[part] != 0) {
                    return tellEntry(16, e, E_NAME);
                }
                entryOf[part] = e;
                partOf[e] = part;
            }
            return 0;
        }

        private int partNamedBy(int e) {
            long name = numberOf(e, E_NAME);
            if (name >= numberOf(namesEntry, E_BYTES)) {
                return NONE;
            }
            int at = (int) (numberOf(namesEntry, E_BEGIN) + name);
            for (int part = 0; part < PARTS; part++) {
                if (standsAt(at, labelOf(part))) {
                    return part;
                }
            }
            return NONE;
        }

        /** The strings' last byte is 0, so that no label is found that goes beyond them. */
        private boolean standsAt(int at, String label) {
            int n = label.length();
            for (int i = 0; i < n; i++) {
                if (file.u1(at + i) != label.charAt(i)) {
                    return false;
                }
            }
            return file.u1(at + n) == 0;
        }

        private int numbersFault() {
            for (int e = 1; e < entries && e < ENTRY_MOST; e++) {
                int wrong = wrongNumber(e, partOf[e]);
                if (wrong != NONE) {
                    return tellEntry(17, e, wrong);
                }
            }
            return 0;
        }

        private int wrongNumber(int e, int part) {
            if (numberOf(e, E_SORT) != SORTS[part]) {
                return E_SORT;
            }
            if (numberOf(e, E_FLAGS) != FLAGS[part]) {
                return E_FLAGS;
            }
            if (numberOf(e, E_ZERO) != 0) {
                return E_ZERO;
            }
            if (!linkIsRight(part, numberOf(e, E_LINK))) {
                return E_LINK;
            }
            if (!infoIsRight(part, numberOf(e, E_INFO))) {
                return E_INFO;
            }
            return numberOf(e, E_UNIT) != UNITS[part] ? E_UNIT : NONE;
        }

        private boolean linkIsRight(int part, long link) {
            if (isRela(part)) {
                return link != 0 && link == entryOf[SYMTAB];
            }
            return part == SYMTAB ? link != 0 && link == entryOf[STRTAB] : link == 0;
        }

        /** Of .symtab the info can be told only when the symbols have been looked at. */
        private boolean infoIsRight(int part, long info) {
            if (isRela(part)) {
                return info != 0 && info == entryOf[part - RELA];
            }
            return part == SYMTAB || info == 0;
        }

        private int missingFault() {
            boolean whole = entryOf[SYMTAB] != 0 && entryOf[STRTAB] != 0 && entryOf[SHSTRTAB] != 0;
            return whole && entryOf[SHSTRTAB] == namesEntry ? 0 : finding.tell(18, NAMES_AT);
        }

        private int lengthsFault() {
            long relocations = 0;
            for (int e = 1; e < entries && e < ENTRY_MOST; e++) {
                long bytes = numberOf(e, E_BYTES);
                if (isRela(partOf[e])) {
                    relocations += bytes / RELOCATION_BYTES;
                }
                if (!lengthMayBe(partOf[e], bytes) || relocations > RELOCATION_MOST) {
                    return tellEntry(19, e, E_BYTES);
                }
            }
            return 0;
        }

        private static boolean lengthMayBe(int part, long bytes) {
            if (isRela(part)) {
                return bytes % RELOCATION_BYTES == 0;
            }
            switch (part) {
                case BSS:
                    return bytes <= BSS_MOST;
                case STARTS:
                    return bytes % START_BYTES == 0 && bytes <= START_BYTES * START_MOST;
                case SYMTAB:
                    return bytes % SYMBOL_BYTES == 0 && bytes >= SYMBOL_BYTES
                            && bytes <= SYMBOL_BYTES * (SYMBOL_MOST + 1);
                default:
                    return part > BSS || bytes <= SECTION_MOST;
            }
        }

        private void locateParts() {
            for (int part = 0; part < PARTS; part++) {
                int e = entryOf[part];
                begins[part] = e == 0 ? 0 : (int) numberOf(e, E_BEGIN);
                lengths[part] = e == 0 ? 0 : (int) numberOf(e, E_BYTES);
                alignments[part] = e == 0 ? 1 : (int) numberOf(e, E_ALIGNMENT);
            }
        }
    }

    /** What the FILE's parts hold: faults 21 to 34. An object is filled only behind them, for with one it stays. */
    private static final class Reader {
        private static final int NO_PLACE = COMMON + 1;

        private final FileBytes file;
        private final Finding finding;
        private final Directory directory;
        private int locals;

        private Reader(FileBytes file, Finding finding, Directory directory) {
            this.file = file;
            this.finding = finding;
            this.directory = directory;
        }

        private int firstFault() {
            int fault = symbolsFault();
            fault = fault != 0 ? fault : relocationsFault();
            return fault != 0 ? fault : startsFault();
        }

        /** How many times 16 bytes .symtab has, the first included. */
        private int symbolRows() {
            return directory.lengths[SYMTAB] / SYMBOL_BYTES;
        }

        private int symbolsFault() {
            int begin = directory.begins[SYMTAB];
            for (int k = begin; k < begin + SYMBOL_BYTES; k++) {
                if (file.u1(k) != 0) {
                    return finding.tell(21, k);
                }
            }
            locals = 0;
            int rows = symbolRows();
            for (int row = 1; row < rows; row++) {
                int fault = symbolFault(row, begin + SYMBOL_BYTES * row);
                if (fault != 0) {
                    return fault;
                }
            }
            int e = directory.entryOf[SYMTAB];
            return directory.numberOf(e, E_INFO) != 1 + locals ? directory.tellEntry(28, e, E_INFO) : 0;
        }

        private int symbolFault(int row, int first) {
            if (nameLength(first) == NONE) {
                return finding.tell(22, first);
            }
            int bind = bindOf(first);
            if (!isBindOrType(bind) || !isBindOrType(typeOf(first))) {
                return finding.tell(23, first + 12);
            }
            if (file.u1(first + 13) != 0) {
                return finding.tell(23, first + 13);
            }
            if (bind == 0 && locals < row - 1) {
                return finding.tell(24, first + 12);
            }
            locals += bind == 0 ? 1 : 0;
            if (whereOf(first) == NO_PLACE) {
                return finding.tell(25, first + 14);
            }
            int flaw = flawIn(first);
            if (flaw != NONE) {
                return finding.tell(26, flaw == VALUE ? first + 4 : flaw == SIZE ? first + 8 : first + 12);
            }
            return bind != 0 && isNamedBefore(row, first) ? finding.tell(27, first) : 0;
        }

        private int flawIn(int first) {
            int where = whereOf(first);
            int room = where >= TEXT && where <= BSS ? directory.lengths[where] : 0;
            return flawOf(where, (int) file.u4(first + 4), (int) file.u4(first + 8), bindOf(first), room);
        }

        private int bindOf(int first) {
            return file.u1(first + 12) >>> 4;
        }

        private int typeOf(int first) {
            return file.u1(first + 12) & 15;
        }

        private int whereOf(int first) {
            int number = file.u2(first + 14);
            switch (number) {
                case 0:
                    return NOWHERE;
                case ABSOLUTE_IN_FILE:
                    return ABSOLUTE;
                case COMMON_IN_FILE:
                    return COMMON;
                default:
                    int section = directory.sectionOf(number);
                    return section == NONE ? NO_PLACE : section;
            }
        }

        private int nameSpot(int first) {
            return directory.begins[STRTAB] + (int) file.u4(first);
        }

        /** NONE when it is no name. */
        private int nameLength(int first) {
            if (file.u4(first) >= directory.lengths[STRTAB]) {
                return NONE;
            }
            int begin = nameSpot(first);
            for (int i = 0; i <= NAME_MOST; i++) {
                int c = file.u1(begin + i);
                if (c == 0) {
                    return i == 0 ? NONE : i;
                }
                if (!isNameCharacter(c)) {
                    return NONE;
                }
            }
            return NONE;
        }

        /** The local ones stand first, so that all behind them up to this row aren't local. */
        private boolean isNamedBefore(int row, int first) {
            int name = nameSpot(first);
            for (int other = locals + 1; other < row; other++) {
                if (haveSameName(name, nameSpot(directory.begins[SYMTAB] + SYMBOL_BYTES * other))) {
                    return true;
                }
            }
            return false;
        }

        private boolean haveSameName(int one, int other) {
            for (int i = 0; i < NAME_MOST; i++) {
                int c = file.u1(one + i);
                if (c != file.u1(other + i)) {
                    return false;
                }
                if (c == 0) {
                    return true;
                }
            }
            return true;
        }

        private int relocationsFault() {
            for (int s = TEXT; s <= DATA; s++) {
                int begin = directory.begins[RELA + s];
                int end = begin + directory.lengths[RELA + s];
                for (int first = begin; first < end; first += RELOCATION_BYTES) {
                    int fault = relocationFault(s, first);
                    if (fault != 0) {
                        return fault;
                    }
                }
            }
            return 0;
        }

        private int relocationFault(int s, int first) {
            int kind = file.u1(first + 4);
            if (!kindMayBeIn(s, kind)) {
                return finding.tell(29, first + 4);
            }
            int number = symbolNumber(first);
            if (number >= symbolRows() || hasSymbol(kind) != (number != 0)) {
                return finding.tell(30, first + 4);
            }
            int addend = (int) file.u4(first + 8);
            if (!addendMayBe(kind, addend)) {
                return finding.tell(31, first + 8);
            }
            boolean beyond = file.u4(first) + widthOf(kind, addend) > directory.lengths[s];
            return beyond ? finding.tell(32, first) : 0;
        }

        private int symbolNumber(int first) {
            return (int) (file.u4(first + 4) >>> 8);
        }

        private int startsFault() {
            int text = directory.begins[TEXT];
            int begin = directory.begins[STARTS];
            int end = begin + directory.lengths[STARTS];
            int before = NONE;
            boolean anyShort = false;
            for (int k = begin; k < end; k += START_BYTES) {
                int start = file.u2(k);
                if (start % 2 != 0 || start <= before || start >= directory.lengths[TEXT]) {
                    return finding.tell(33, k);
                }
                before = start;
                anyShort = anyShort || isShort(file.u1(text + start));
            }
            return anyShort != (file.u4(FLAGS_AT) == 1) ? finding.tell(34, FLAGS_AT) : 0;
        }

        private void fill(Contents to) {
            to.reset();
            for (int s = TEXT; s <= BSS; s++) {
                to.lengths[s] = directory.lengths[s];
                to.alignments[s] = directory.alignments[s];
            }
            for (int s = TEXT; s <= DATA; s++) {
                file.copyOut(directory.begins[s], to.bytes, s * SECTION_MOST, directory.lengths[s]);
            }
            int begin = directory.begins[STARTS];
            int end = begin + directory.lengths[STARTS];
            for (int k = begin; k < end; k += START_BYTES) {
                to.addStart(file.u2(k));
            }
            int rows = symbolRows();
            for (int row = 1; row < rows; row++) {
                fillSymbol(to, directory.begins[SYMTAB] + SYMBOL_BYTES * row);
            }
            for (int s = TEXT; s <= DATA; s++) {
                fillRelocations(to, s);
            }
        }

        private void fillSymbol(Contents to, int first) {
            int k = to.addSymbol(file.row, nameSpot(first), nameLength(first));
            int value = (int) file.u4(first + 4);
            int size = (int) file.u4(first + 8);
            to.tellSymbol(k, whereOf(first), value, size, bindOf(first), typeOf(first));
        }

        private void fillRelocations(Contents to, int s) {
            int begin = directory.begins[RELA + s];
            int end = begin + directory.lengths[RELA + s];
            for (int first = begin; first < end; first += RELOCATION_BYTES) {
                int symbol = symbolNumber(first) - 1;
                to.addRelocation(s, (int) file.u4(first), file.u1(first + 4), symbol, (int) file.u4(first + 8));
            }
        }
    }
}
