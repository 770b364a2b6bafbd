import java.util.ArrayList;
import java.util.Arrays;

/** READING, faults 11 to 20, sentence by sentence: the entries. */
public final class EntryFaultsTest {
    private static final Check C = new Check();
    private static final long MOST = (1L << 32) - 1;

    // the sample's entries
    private static final int TEXT = 1;
    private static final int RODATA = 2;
    private static final int DATA = 3;
    private static final int BSS = 4;
    private static final int STARTS = 5;
    private static final int RELA = 6;
    private static final int SYMTAB = 7;
    private static final int STRTAB = 8;
    private static final int SHSTRTAB = 9;

    // the numbers of an entry
    private static final int NAME = 0;
    private static final int SORT = 1;
    private static final int FLAGS = 2;
    private static final int ZERO = 3;
    private static final int BEGIN = 4;
    private static final int BYTES = 5;
    private static final int LINK = 6;
    private static final int INFO = 7;
    private static final int ALIGNMENT = 8;
    private static final int UNIT = 9;

    public static void main(String[] args) {
        fault11EntryZero();
        fault11Sort();
        fault12BeyondN();
        fault12BelowTheHeader();
        fault12NotOfSort8();
        fault13NoPowerOfTwo();
        fault13NoMultiple();
        fault13NotOfSort8();
        fault14TheTables();
        fault14AnEntryBefore();
        fault14NoBytes();
        faults11To14EntryByEntry();
        fault15Sort();
        fault15NoBytes();
        fault15FirstOrLastByte();
        fault16Beyond();
        fault16NoneOfTheNames();
        fault16OneBefore();
        fault17Numbers();
        fault17InThisOrder();
        fault17LinksAndInfos();
        fault17WhichMustBeThere();
        fault17InfoOfSymtab();
        fault17BehindAllOfThese();
        fault18Missing();
        fault18NamesEntry();
        fault19Sections();
        fault19Bss();
        fault19Starts();
        fault19Rela();
        fault19AllThreeTogether();
        fault19Symtab();
        fault19ByEntries();
        missingIsEmpty();
        fault20();
        C.end();
    }

    private static Spoiled sample() {
        return new Spoiled(C, Sample.file());
    }

    private static Spoiled entry(int e, int number, long to) {
        return sample().entry(e, number, to);
    }

    private static int spot(int e, int number) {
        return Sample.TABLE + 40 * e + 4 * number;
    }

    private static Spoiled of(Model.Obj o) {
        return new Spoiled(C, Model.written(o));
    }

    private static Model.Obj object(int text, int rodata, int data) {
        Model.Obj o = new Model.Obj();
        o.bytes = new byte[][] {new byte[text], new byte[rodata], new byte[data]};
        return o;
    }

    // ---- 11 to 14

    private static void fault11EntryZero() {
        C.sentence("Of each entry, from 0 on: 11 entry 0 has a number that isn't 0");
        for (int k = 0; k < 10; k++) {
            for (long number : new long[] {1, 256, 1 << 16, 1 << 24, 1L << 31, MOST}) {
                entry(0, k, number).due("number " + k + " is " + number, 11, spot(0, k));
            }
            entry(0, k, 8).entry(0, 9, 1).due("the first of two", 11, spot(0, k));
        }
        entry(0, SORT, 1).entry(0, ALIGNMENT, 1).due("a sort that another one may have", 11, spot(0, SORT));
    }

    private static void fault11Sort() {
        C.sentence("11 .. another one a sort that isn't 1, 2, 3, 4, 8.");
        for (int e = 1; e <= 9; e++) {
            for (long sort : new long[] {0, 5, 6, 7, 9, 16, 256 + 1, 1 << 16 | 3, 1L << 31 | 8, MOST}) {
                entry(e, SORT, sort).due("sort " + sort + " of " + e, 11, spot(e, SORT));
            }
        }
        for (int sort : new int[] {1, 2, 3, 4, 8}) {
            // .data is empty, so that another sort is at fault only behind
            entry(DATA, SORT, sort).due("sort " + sort, sort == 1 ? 0 : 17, sort == 1 ? -1 : spot(DATA, SORT));
        }
    }

    private static void fault12BeyondN() {
        C.sentence("12 (but not of sort 8) where it begins and how many bytes it has go together beyond n");
        entry(DATA, BEGIN, 644).sound("no bytes at n");
        entry(DATA, BEGIN, 645).due("no bytes beyond n", 12, spot(DATA, BEGIN));
        entry(DATA, BEGIN, MOST).due("no bytes far beyond n", 12, spot(DATA, BEGIN));
        entry(TEXT, BYTES, 644 - 52).due("bytes up to n", 14, spot(TEXT, BEGIN));
        entry(TEXT, BYTES, 645 - 52).due("bytes beyond n", 12, spot(TEXT, BEGIN));
        for (long bytes : new long[] {1000, 1L << 31, MOST - 52, MOST - 51, MOST - 50, MOST}) {
            entry(TEXT, BYTES, bytes).due(bytes + " bytes, which wrap around", 12, spot(TEXT, BEGIN));
        }
        for (long begin : new long[] {640, 644, 648, 1L << 31, MOST - 3, MOST - 5}) {
            entry(TEXT, BEGIN, begin).due("six bytes from " + begin, 12, spot(TEXT, BEGIN));
        }
        for (int e : new int[] {TEXT, RODATA, DATA, STARTS, RELA, SYMTAB, STRTAB, SHSTRTAB}) {
            entry(e, BYTES, 644).due("too many bytes of " + e, 12, spot(e, BEGIN));
        }
        // bytes behind the TABLE: up to n, and one more
        Spoiled longer = sample().cut(648);
        longer.entry(DATA, BEGIN, 644).entry(DATA, BYTES, 4).sound("four bytes up to n");
        longer.entry(DATA, BYTES, 5).due("five bytes beyond n", 12, spot(DATA, BEGIN));
    }

    private static void fault12BelowTheHeader() {
        C.sentence("12 .. or it has some and begins below 52.");
        for (int begin : new int[] {0, 4, 44, 48}) {
            entry(TEXT, BEGIN, begin).due("begins at " + begin, 12, spot(TEXT, BEGIN));
        }
        entry(TEXT, ALIGNMENT, 1).entry(TEXT, BEGIN, 51).due("begins at 51", 12, spot(TEXT, BEGIN));
        entry(TEXT, ALIGNMENT, 1).entry(TEXT, BEGIN, 52).sound("begins at 52");
        entry(DATA, BEGIN, 0).sound("no bytes at 0");
        entry(DATA, BEGIN, 51).sound("no bytes at 51");
        entry(DATA, BEGIN, 51).entry(DATA, BYTES, 1).due("one byte at 51", 12, spot(DATA, BEGIN));
    }

    private static void fault12NotOfSort8() {
        C.sentence("12 (but not of sort 8)");
        for (long begin : new long[] {0, 51, 644, 645, 1L << 31, MOST}) {
            entry(BSS, BEGIN, begin).sound(".bss begins at " + begin);
        }
        entry(BSS, BYTES, 4096).sound(".bss goes beyond n");
        entry(BSS, BYTES, MOST).due(".bss goes far beyond n", 19, spot(BSS, BYTES));
        // the sort tells, not the name
        Spoiled far = entry(TEXT, SORT, 8).entry(TEXT, BEGIN, MOST).entry(TEXT, BYTES, MOST);
        far.due(".text of sort 8 far away", 17, spot(TEXT, SORT));
        entry(BSS, SORT, 1).entry(BSS, BYTES, 999).due(".bss of sort 1 beyond n", 12, spot(BSS, BEGIN));
        entry(BSS, SORT, 1).entry(BSS, ALIGNMENT, 1).due(".bss of sort 1 has .starts' bytes", 14, spot(STARTS, BEGIN));
    }

    private static void fault13NoPowerOfTwo() {
        C.sentence("13 the alignment isn't a power of two 1 .. 64");
        for (int e = 1; e <= 9; e++) {
            for (long alignment : new long[] {0, 3, 5, 6, 7, 12, 63, 65, 96, 127, 128, 256, 256 + 1, 1 << 16, 1L << 31, MOST}) {
                entry(e, ALIGNMENT, alignment).due("alignment " + alignment + " of " + e, 13, spot(e, ALIGNMENT));
            }
        }
        for (int power = 0; power <= 6; power++) {
            entry(BSS, ALIGNMENT, 1 << power).sound("2 to the " + power);
            entry(DATA, BEGIN, 64).entry(DATA, ALIGNMENT, 1 << power).sound("2 to the " + power);
        }
    }

    private static void fault13NoMultiple() {
        C.sentence("13 .. or, but for sort 8, where it begins isn't a multiple of it.");
        int[] begins = {52, 64, 66, 66, 66, 72, 96, 160, 170};
        for (int e = 1; e <= 9; e++) {
            for (int alignment = 1; alignment <= 64; alignment *= 2) {
                boolean may = e == BSS || begins[e - 1] % alignment == 0;
                entry(e, ALIGNMENT, alignment).due("alignment " + alignment + " of " + e, may ? 0 : 13, may ? -1 : spot(e, ALIGNMENT));
            }
        }
        entry(DATA, BEGIN, 0).entry(DATA, ALIGNMENT, 64).sound("no bytes at 0");
        entry(DATA, BEGIN, 32).entry(DATA, ALIGNMENT, 64).due("no bytes at 32", 13, spot(DATA, ALIGNMENT));
    }

    private static void fault13NotOfSort8() {
        C.sentence("13 .. but for sort 8");
        for (long begin : new long[] {1, 65, MOST}) {
            entry(BSS, BEGIN, begin).entry(BSS, ALIGNMENT, 64).sound(".bss at " + begin);
        }
        entry(BSS, ALIGNMENT, 128).due(".bss by 128", 13, spot(BSS, ALIGNMENT));
    }

    private static void fault14TheTables() {
        C.sentence("14 it has bytes (not of sort 8) some of which are the TABLE's");
        entry(SHSTRTAB, BYTES, 244 - 170).sound("up to the TABLE");
        entry(SHSTRTAB, BYTES, 245 - 170).due("one of the TABLE's bytes", 14, spot(SHSTRTAB, BEGIN));
        entry(DATA, BYTES, 1).entry(DATA, BEGIN, 244).due("its first byte", 14, spot(DATA, BEGIN));
        entry(DATA, BYTES, 1).entry(DATA, BEGIN, 643).due("its last byte", 14, spot(DATA, BEGIN));
        entry(DATA, BYTES, 400).entry(DATA, BEGIN, 244).due("all of it", 14, spot(DATA, BEGIN));
        entry(DATA, BYTES, 1).entry(DATA, BEGIN, 243).sound("the byte before it");
        entry(DATA, BYTES, 1).entry(DATA, BEGIN, 644).cut(645).sound("the byte behind it");
        entry(DATA, BYTES, 402).entry(DATA, BEGIN, 243).cut(645).due("around it", 14, spot(DATA, BEGIN));
        entry(DATA, BYTES, 2).entry(DATA, BEGIN, 643).cut(645).due("from its last byte on", 14, spot(DATA, BEGIN));
    }

    private static void fault14AnEntryBefore() {
        C.sentence("14 .. or those of an entry before.");
        entry(TEXT, BYTES, 64 - 52).sound(".text up to .rodata");
        entry(TEXT, BYTES, 65 - 52).due(".text into .rodata", 14, spot(RODATA, BEGIN));
        entry(TEXT, BYTES, 66 - 52).due(".text over .rodata", 14, spot(RODATA, BEGIN));
        entry(RODATA, BEGIN, 56).due(".rodata within .text", 14, spot(RODATA, BEGIN));
        entry(RODATA, ALIGNMENT, 1).entry(RODATA, BEGIN, 57).due(".rodata at .text's last byte", 14, spot(RODATA, BEGIN));
        entry(RODATA, ALIGNMENT, 1).entry(RODATA, BEGIN, 58).sound(".rodata right behind .text");
        entry(RODATA, ALIGNMENT, 1).entry(RODATA, BEGIN, 52).entry(RODATA, BYTES, 6).due("the same bytes", 14, spot(RODATA, BEGIN));
        // the one of the two that stands behind is at fault, wherever its bytes are
        entry(TEXT, BEGIN, 96).due(".text within .symtab", 14, spot(SYMTAB, BEGIN));
        entry(DATA, BYTES, 1).due(".data's byte is .starts'", 14, spot(STARTS, BEGIN));
        entry(STRTAB, BYTES, 11).due(".strtab into .shstrtab", 14, spot(SHSTRTAB, BEGIN));
        entry(SHSTRTAB, BEGIN, 169).due(".shstrtab from .strtab's last byte on", 14, spot(SHSTRTAB, BEGIN));
        entry(SHSTRTAB, BEGIN, 52).due(".shstrtab over all", 14, spot(SHSTRTAB, BEGIN));
        for (int e = RODATA; e <= SHSTRTAB; e++) {
            if (e != BSS) {
                entry(e, ALIGNMENT, 1).entry(e, BEGIN, 54).entry(e, BYTES, 1).due("entry " + e + " in .text", 14, spot(e, BEGIN));
            }
        }
    }

    private static void fault14NoBytes() {
        C.sentence("14 it has bytes (not of sort 8)");
        for (int begin : new int[] {0, 52, 54, 66, 100, 244, 300, 644}) {
            entry(DATA, BEGIN, begin).sound("no bytes at " + begin);
            entry(BSS, BEGIN, begin).entry(BSS, BYTES, 4096).sound(".bss at " + begin);
        }
    }

    private static void faults11To14EntryByEntry() {
        C.sentence("Of each entry, from 0 on");
        entry(2, SORT, 0).entry(1, ALIGNMENT, 3).due("13 of 1, 11 of 2", 13, spot(1, ALIGNMENT));
        entry(9, SORT, 0).entry(2, BEGIN, 56).due("14 of 2, 11 of 9", 14, spot(2, BEGIN));
        entry(3, BEGIN, 700).entry(2, ALIGNMENT, 0).due("13 of 2, 12 of 3", 13, spot(2, ALIGNMENT));
        entry(1, SORT, 0).entry(0, 9, 1).due("11 of 0, 11 of 1", 11, spot(0, 9));
        for (int e = 1; e < 9; e++) {
            entry(e, ALIGNMENT, 3).entry(e + 1, SORT, 0).due("13 of " + e, 13, spot(e, ALIGNMENT));
        }
        // of one entry
        entry(2, SORT, 0).entry(2, BYTES, 999).due("11 before 12", 11, spot(2, SORT));
        entry(2, BYTES, 999).entry(2, ALIGNMENT, 3).due("12 before 13", 12, spot(2, BEGIN));
        entry(2, ALIGNMENT, 3).entry(2, BEGIN, 56).due("13 before 14", 13, spot(2, ALIGNMENT));
    }

    // ---- 15 and 16

    private static void fault15Sort() {
        C.sentence("Then the entry of the names: 15 it isn't of sort 3 (place: its sort)");
        for (int e : new int[] {TEXT, RODATA, DATA, BSS, STARTS, RELA, SYMTAB}) {
            sample().set(50, 2, e).due("entry " + e, 15, spot(e, SORT));
        }
        for (int sort : new int[] {1, 2, 4, 8}) {
            entry(SHSTRTAB, SORT, sort).due("sort " + sort, 15, spot(SHSTRTAB, SORT));
        }
        entry(SHSTRTAB, SORT, 2).entry(SHSTRTAB, BYTES, 0).due("the sort before how many", 15, spot(SHSTRTAB, SORT));
    }

    private static void fault15NoBytes() {
        C.sentence("15 .. or has no bytes (place: how many)");
        entry(SHSTRTAB, BYTES, 0).due("no bytes", 15, spot(SHSTRTAB, BYTES));
        entry(SHSTRTAB, BYTES, 0).entry(SHSTRTAB, BEGIN, 0).due("no bytes at 0", 15, spot(SHSTRTAB, BYTES));
        entry(SHSTRTAB, BYTES, 0).entry(SHSTRTAB, BEGIN, 644).due("no bytes at n", 15, spot(SHSTRTAB, BYTES));
        entry(SHSTRTAB, BYTES, 1).due("one byte", 16, spot(1, NAME));
    }

    private static void fault15FirstOrLastByte() {
        C.sentence("15 .. or its first or last byte isn't 0 (place: the byte)");
        for (int b : new int[] {1, 46, 255}) {
            sample().set(170, 1, b).due("the first byte " + b, 15, 170);
            sample().set(240, 1, b).due("the last byte " + b, 15, 240);
        }
        sample().set(170, 1, 1).set(240, 1, 1).due("both", 15, 170);
        entry(SHSTRTAB, BYTES, 70).due("the last byte of fewer", 15, 239);
        entry(SHSTRTAB, BYTES, 72).sound("the last byte of more");
        entry(SHSTRTAB, BEGIN, 171).due("the first byte of fewer", 15, 171);
        // one byte is both
        entry(SHSTRTAB, BYTES, 1).entry(SHSTRTAB, BEGIN, 176).due("one byte 0", 16, spot(1, NAME));
        entry(SHSTRTAB, BYTES, 1).entry(SHSTRTAB, BEGIN, 175).due("one byte", 15, 175);
    }

    private static void fault16Beyond() {
        C.sentence("Then of the entries, from 1 on: 16 its name's place is beyond the strings");
        for (int e = 1; e <= 9; e++) {
            for (long at : new long[] {71, 72, 244, 8192, 1L << 31, MOST - 169, MOST}) {
                entry(e, NAME, at).due("name of " + e + " at " + at, 16, spot(e, NAME));
            }
        }
        // the strings may go on behind the last name
        entry(SHSTRTAB, BYTES, 74).entry(9, NAME, 73).due("a 0 within", 16, spot(9, NAME));
    }

    private static void fault16NoneOfTheNames() {
        C.sentence("16 .. or the characters from there to the next 0 are none of the eleven names");
        for (int at : new int[] {0, 2, 3, 5, 6, 8, 14, 40, 44, 62, 70}) {
            entry(1, NAME, at).due("name at " + at, 16, spot(1, NAME));
        }
        entry(1, NAME, 39).sound("the end of .rela.text");
        sample().set(171 + 4, 1, 'T').due(".texT", 16, spot(1, NAME));
        sample().set(171 + 5, 1, 'x').due(".textx.rodata", 16, spot(1, NAME));
        sample().set(171 + 4, 1, 0).due(".tex", 16, spot(1, NAME));
        sample().set(171, 1, 'x').due("xtext", 16, spot(1, NAME));
        sample().set(171, 1, 0).due("none", 16, spot(1, NAME));
        sample().set(171 + 4, 1, 't' + 128).due("a character above 127", 16, spot(1, NAME));
        sample().set(170 + 69, 1, 'x').due("the last name", 16, spot(9, NAME));
    }

    private static void fault16OneBefore() {
        C.sentence("16 .. or one that an entry before has (place of the number)");
        int[] names = {0, 1, 7, 15, 21, 26, 34, 45, 53, 61};
        for (int e = 1; e <= 9; e++) {
            for (int other = 1; other <= 9; other++) {
                if (e != other) {
                    entry(e, NAME, names[other]).due("name of " + e + " is that of " + other, 16, spot(Math.max(e, other), NAME));
                }
            }
        }
        // the same name at another place
        entry(3, NAME, 39).due(".text again, elsewhere", 16, spot(3, NAME));
        entry(1, NAME, 39).entry(3, NAME, 1).due(".text again, elsewhere", 16, spot(3, NAME));
        entry(2, NAME, 0).entry(1, NAME, 0).due("from 1 on", 16, spot(1, NAME));
    }

    // ---- 17

    private static final int[] LOOKED_AT = {FLAGS, ZERO, LINK, INFO, UNIT};

    private static void fault17Numbers() {
        C.sentence("Behind all of these, of the entries, from 1 on: 17 its sort, its flags, the number behind them, the link, the info, or how many bytes one has .. aren't as for writing");
        for (int e = 1; e <= 9; e++) {
            for (int k : LOOKED_AT) {
                if (e == SYMTAB && k == INFO) {
                    continue;
                }
                long was = Sample.ENTRIES[e][k];
                for (long now : new long[] {was + 1, was ^ 2, was | 256, was | 1 << 16, was | 1L << 31, MOST, was == 0 ? 64 : 0}) {
                    entry(e, k, now).due("number " + k + " of " + e + " is " + now, 17, spot(e, k));
                }
            }
        }
        for (int sort : new int[] {2, 3, 4, 8}) {
            entry(DATA, SORT, sort).due(".data of sort " + sort, 17, spot(DATA, SORT));
            entry(STARTS, SORT, sort).due(".starts of sort " + sort, 17, spot(STARTS, SORT));
        }
        for (int sort : new int[] {1, 2, 3, 4}) {
            entry(BSS, SORT, sort).entry(BSS, BYTES, 0).entry(BSS, ALIGNMENT, 1).due(".bss of sort " + sort, 17, spot(BSS, SORT));
        }
        entry(RELA, SORT, 1).due(".rela.text of sort 1", 17, spot(RELA, SORT));
        entry(SYMTAB, SORT, 3).due(".symtab of sort 3", 17, spot(SYMTAB, SORT));
        entry(STRTAB, SORT, 2).due(".strtab of sort 2", 17, spot(STRTAB, SORT));
        // the flags of every other part
        for (int e = 1; e <= 9; e++) {
            for (int flags : new int[] {0, 2, 3, 6, 64}) {
                boolean may = flags == Sample.ENTRIES[e][FLAGS];
                entry(e, FLAGS, flags).due("flags " + flags + " of " + e, may ? 0 : 17, may ? -1 : spot(e, FLAGS));
            }
        }
    }

    private static void fault17InThisOrder() {
        C.sentence("17 .. in this order");
        int[] order = {SORT, FLAGS, ZERO, LINK, INFO, UNIT};
        for (int i = 0; i < order.length; i++) {
            for (int j = i + 1; j < order.length; j++) {
                Spoiled s = entry(DATA, order[i], order[i] == SORT ? 3 : 77).entry(DATA, order[j], 77);
                s.due(order[i] + " and " + order[j], 17, spot(DATA, order[i]));
                Spoiled r = entry(RELA, order[i], order[i] == SORT ? 1 : 77).entry(RELA, order[j], 77);
                r.due(order[i] + " and " + order[j] + " of .rela.text", 17, spot(RELA, order[i]));
            }
        }
        for (int e = 1; e < 9; e++) {
            entry(e, UNIT, 77).entry(e + 1, FLAGS, 77).due("from 1 on", 17, spot(e, UNIT));
        }
    }

    private static void fault17LinksAndInfos() {
        C.sentence("17 .. (a link or info that tells an entry: one with that name, ..)");
        for (int e = 0; e <= 10; e++) {
            boolean right = e == SYMTAB;
            entry(RELA, LINK, e).due(".rela.text's link " + e, right ? 0 : 17, right ? -1 : spot(RELA, LINK));
            right = e == TEXT;
            entry(RELA, INFO, e).due(".rela.text's info " + e, right ? 0 : 17, right ? -1 : spot(RELA, INFO));
            right = e == STRTAB;
            entry(SYMTAB, LINK, e).due(".symtab's link " + e, right ? 0 : 17, right ? -1 : spot(SYMTAB, LINK));
        }
        // with names changed about, the entry is another one, and so must be the link or info
        Spoiled s = entry(TEXT, NAME, 7).entry(RODATA, NAME, 1).entry(TEXT, FLAGS, 2).entry(RODATA, FLAGS, 6);
        s.due(".text is entry 2", 17, spot(RELA, INFO));
        // .text, with two bytes, is too short for its relocation then
        s.entry(RELA, INFO, 2).entry(RELA, BYTES, 0).entry(STARTS, BYTES, 0).set(36, 4, 0).set(128 + 8, 4, 2).sound(".text is entry 2");
    }

    /** A file without some of its entries, whose links and infos are as their entries are then numbered. */
    private static Spoiled without(Model.Obj o, String... missing) {
        byte[] all = Model.written(o);
        Spoiled s = new Spoiled(C, all);
        int table = (int) s.get(32);
        int many = all[48];
        ArrayList<String> there = new ArrayList<>();
        int[] now = new int[many];
        int to = 1;
        for (int e = 1; e < many; e++) {
            String name = nameOf(s, all, e, many - 1);
            if (!Arrays.asList(missing).contains(name)) {
                System.arraycopy(all, table + 40 * e, all, table + 40 * to, 40);
                there.add(name);
                now[e] = to;
                to++;
            }
        }
        for (int e = 1; e < to; e++) {
            s.entry(e, LINK, now[(int) s.number(e, LINK)]);
            if (s.number(e, SORT) == 4) {
                s.entry(e, INFO, now[(int) s.number(e, INFO)]);
            }
        }
        return s.set(48, 2, to).set(50, 2, Math.max(1, there.indexOf(".shstrtab") + 1));
    }

    private static String nameOf(Spoiled s, byte[] all, int e, int names) {
        StringBuilder text = new StringBuilder();
        for (int k = (int) (s.number(names, BEGIN) + s.number(e, NAME)); all[k] != 0; k++) {
            text.append((char) all[k]);
        }
        return text.toString();
    }

    private static Model.Obj withRelocations() {
        Model.Obj o = object(8, 8, 8);
        o.syms.add(new Model.Sym("a", 4, 0, 0, 1, 0));
        for (int s = 0; s < 3; s++) {
            o.rels.add(new Model.Rel(s, 0, 1, 0, 0));
        }
        return o;
    }

    private static void fault17WhichMustBeThere() {
        C.sentence("17 .. (.. one with that name, which must be there; ..)");
        without(withRelocations()).sound("none is missing");
        // the entries are .text, .rodata, .data, .bss, .rela.text, .rela.rodata, .rela.data, .symtab, .strtab, .shstrtab
        String[] sections = {".text", ".rodata", ".data"};
        for (int s = 0; s < 3; s++) {
            Spoiled f = without(withRelocations(), sections[s]);
            f.due("without " + sections[s], 17, f.spot(4 + s, INFO));
            // no number tells what isn't there
            for (int info = 1; info < 10; info++) {
                f.entry(4 + s, INFO, info).due("info " + info, 17, f.spot(4 + s, INFO));
            }
        }
        Spoiled f = without(withRelocations(), ".symtab");
        for (int link = 0; link < 10; link++) {
            f.entry(5, LINK, link).due("link " + link + " without .symtab", 17, f.spot(5, LINK));
        }
        Spoiled g = without(object(0, 0, 0), ".strtab");
        for (int link = 0; link < 8; link++) {
            g.entry(5, LINK, link).due("link " + link + " without .strtab", 17, g.spot(5, LINK));
        }
        without(withRelocations(), ".bss").sound("without .bss");
    }

    private static void fault17InfoOfSymtab() {
        C.sentence("17 .. of .symtab the info is looked at with the symbols");
        entry(SYMTAB, INFO, 0).due("info 0", 28, spot(SYMTAB, INFO));
        entry(SYMTAB, INFO, 0).entry(SYMTAB, UNIT, 0).due("the info and behind it", 17, spot(SYMTAB, UNIT));
        entry(SYMTAB, INFO, MOST).set(Sample.SYMTAB, 1, 1).due("the info and a symbol", 21, Sample.SYMTAB);
    }

    private static void fault17BehindAllOfThese() {
        C.sentence("Behind all of these");
        entry(1, FLAGS, 0).entry(9, NAME, 0).due("17 of 1, 16 of 9", 16, spot(9, NAME));
        entry(1, FLAGS, 0).set(240, 1, 1).due("17 of 1, 15", 15, 240);
        entry(1, FLAGS, 0).entry(9, ALIGNMENT, 0).due("17 of 1, 13 of 9", 13, spot(9, ALIGNMENT));
    }

    // ---- 18

    private static void fault18Missing() {
        C.sentence("18 .symtab, .strtab or .shstrtab is missing (place 50)");
        Model.Obj empty = object(0, 0, 0);
        without(empty).sound("none is missing");
        without(empty, ".symtab").due("without .symtab", 18, 50);
        without(empty, ".symtab", ".strtab").due("without both", 18, 50);
        without(empty, ".symtab", ".text", ".rodata", ".data", ".bss").due("without more", 18, 50);
        Spoiled s = without(empty, ".strtab");
        s.due("without .strtab, which .symtab tells", 17, s.spot(5, LINK));
        // .shstrtab's name at another sort 3 makes it missing: .strtab alone is there, with the names
        Spoiled t = without(empty, ".symtab", ".shstrtab");
        int e = 5;
        t.entry(e, BEGIN, 69).entry(e, BYTES, 52).set(50, 2, e).due("without .shstrtab", 18, 50);
    }

    private static void fault18NamesEntry() {
        C.sentence("18 .. or the names' entry is not .shstrtab (place 50)");
        // the names' entry is called .strtab, and the other one .shstrtab
        Spoiled s = entry(STRTAB, NAME, 61).entry(SHSTRTAB, NAME, 53);
        s.due("the link of .symtab", 17, spot(SYMTAB, LINK));
        s.entry(SYMTAB, LINK, SHSTRTAB).due("the names are .strtab's", 18, 50);
        sample().set(50, 2, STRTAB).due("the names' entry is .strtab, which has none of them", 16, spot(1, NAME));
    }

    // ---- 19

    private static void fault19Sections() {
        C.sentence("19 more bytes than may be ..: .text, .rodata, .data (place of how many)");
        for (int s = 0; s < 3; s++) {
            of(object(s == 0 ? 2048 : 0, s == 1 ? 2048 : 0, s == 2 ? 2048 : 0)).sound("2048 bytes");
            for (int bytes : new int[] {2049, 2056, 3000}) {
                Spoiled f = of(object(s == 0 ? bytes : 0, s == 1 ? bytes : 0, s == 2 ? bytes : 0));
                f.due(bytes + " bytes", 19, f.spot(s + 1, BYTES));
            }
        }
    }

    private static void fault19Bss() {
        C.sentence("19 more bytes than may be ..: .bss");
        entry(BSS, BYTES, 0).sound("0");
        entry(BSS, BYTES, 4096).sound("4096");
        for (long bytes : new long[] {4097, 8192, 65536, 1L << 31, MOST}) {
            entry(BSS, BYTES, bytes).due("" + bytes, 19, spot(BSS, BYTES));
        }
    }

    private static void fault19Starts() {
        C.sentence("19 more bytes than may be, or not so many that whole ones come out: .starts");
        entry(STARTS, BYTES, 3).due("one and a half", 19, spot(STARTS, BYTES));
        entry(STARTS, BYTES, 1).due("a half", 19, spot(STARTS, BYTES));
        entry(STARTS, BYTES, 0).set(36, 4, 0).sound("none");
        Model.Obj o = object(1, 0, 0);
        for (int k = 0; k < 1024; k++) {
            o.starts.add(0);
        }
        Spoiled most = of(o);
        most.due("1024, which do not rise", 33, 56);
        o.starts.add(0);
        Spoiled more = of(o);
        more.due("1025", 19, more.spot(5, BYTES));
        more.entry(5, BYTES, 2049).due("1024 and a half", 19, more.spot(5, BYTES));
    }

    private static void fault19Rela() {
        C.sentence("19 .. not so many that whole ones come out: .rela..");
        for (int bytes = 0; bytes <= 24; bytes++) {
            boolean may = bytes % 12 == 0;
            entry(RELA, BYTES, bytes).due(bytes + " bytes", may ? 0 : 19, may ? -1 : spot(RELA, BYTES));
        }
        for (int s = 0; s < 3; s++) {
            Spoiled f = of(withRelocations());
            f.entry(5 + s, BYTES, 11).due("11 bytes", 19, f.spot(5 + s, BYTES));
        }
    }

    /** 300 relocations (296, 2 and 2), and then some more of part e, put behind the TABLE; at fault is the other entry. */
    private static void beyond300(int e, int more, boolean changedAbout, int atFault) {
        Model.Obj o = object(8, 8, 8);
        o.syms.add(new Model.Sym("a", 4, 0, 0, 1, 0));
        Use x = new Use().zeros(0, 8).zeros(1, 8).zeros(2, 8);
        x.symbol("a", 4, 0, 0, 1);
        for (int k = 0; k < 300; k++) {
            int s = k < 2 ? 1 : k < 4 ? 2 : 0;
            x.relocation(s, 0, 1, 0, k);
            o.rels.add(new Model.Rel(s, 0, 1, 0, k));
        }
        byte[] now = Model.written(o);
        C.due("write", x.write(), now.length);
        C.due("read of 300", x.read(), 0);
        C.due("count 2", x.count(2), 300);
        byte[] wanted = now.clone();
        int rows = 2 + more;
        Spoiled f = new Spoiled(C, wanted).entry(e, BEGIN, now.length).entry(e, BYTES, 12 * rows);
        if (changedAbout) {
            byte[] data = Arrays.copyOfRange(wanted, f.spot(7, 0), f.spot(8, 0));
            System.arraycopy(wanted, f.spot(5, 0), wanted, f.spot(7, 0), 40);
            System.arraycopy(data, 0, wanted, f.spot(5, 0), 40);
        }
        x.reshape(now, wanted);
        for (int k = 0; k < rows; k++) {
            x.feed(8, 0x0000000001010000L);
            x.feed(4, 0);
        }
        C.due("read with " + more + " more", x.read(), atFault == 0 ? 0 : 19);
        C.due("place", x.place(), atFault == 0 ? -1 : f.spot(atFault, BYTES));
    }

    private static void fault19AllThreeTogether() {
        C.sentence("19 .. .rela.. (all three together 300 relocations: the one that goes beyond)");
        beyond300(6, 0, false, 0);
        beyond300(7, 0, false, 0);
        beyond300(7, 1, false, 7);
        beyond300(7, 2, false, 7);
        beyond300(6, 1, false, 7);
        beyond300(6, 2, false, 7);
        beyond300(6, 3, false, 6);
        // by entries, of which .rela.data's is 5 and .rela.text's is 7 then
        beyond300(7, 0, true, 0);
        beyond300(7, 1, true, 7);
        beyond300(6, 1, true, 7);
        // one part alone: .symtab and .strtab go behind the TABLE, so that .rela.text has room for one more
        Use x = new Use();
        for (int k = 0; k < 300; k++) {
            x.relocation(0, 0, 51, -1, 0);
        }
        int n = x.write();
        for (int k = 0; k < 3; k++) {
            x.feed(8, 0);
        }
        int table = n - 9 * 40;
        move(x, table + 40 * 6 + 16, n);
        move(x, table + 40 * 7 + 16, n + 16);
        C.due("read with .symtab elsewhere", x.read(), 0);
        C.due("how many", x.spoil(table + 40 * 5 + 20, 3612 & 255), 3600 & 255);
        C.due("read of 301", x.read(), 19);
        C.due("place", x.place(), table + 40 * 5 + 20);
    }

    private static void move(Use x, int at, int begin) {
        x.spoil(at, begin);
        x.spoil(at + 1, begin >> 8);
    }

    private static void fault19Symtab() {
        C.sentence("19 .. .symtab (1 to 101)");
        entry(SYMTAB, BYTES, 0).due("none", 19, spot(SYMTAB, BYTES));
        for (int bytes : new int[] {1, 8, 15, 17, 31, 63}) {
            entry(SYMTAB, BYTES, bytes).due(bytes + " bytes", 19, spot(SYMTAB, BYTES));
        }
        of(object(0, 0, 0)).sound("1");
        Model.Obj o = object(0, 0, 0);
        for (int k = 0; k < 100; k++) {
            o.syms.add(new Model.Sym("a", 4, 0, 0, 0, 0));
        }
        of(o).sound("101");
        o.syms.add(new Model.Sym("a", 4, 0, 0, 0, 0));
        Spoiled more = of(o);
        more.due("102", 19, more.spot(5, BYTES));
    }

    private static void fault19ByEntries() {
        C.sentence("19 .. by entries from 1 on");
        entry(BSS, BYTES, 5000).entry(STARTS, BYTES, 3).due(".bss and .starts", 19, spot(BSS, BYTES));
        entry(STARTS, BYTES, 3).entry(RELA, BYTES, 13).due(".starts and .rela.text", 19, spot(STARTS, BYTES));
        entry(RELA, BYTES, 13).entry(SYMTAB, BYTES, 0).due(".rela.text and .symtab", 19, spot(RELA, BYTES));
        entry(SYMTAB, BYTES, 0).entry(STRTAB, BYTES, 0).due(".symtab and 20", 19, spot(SYMTAB, BYTES));
        // not by parts: .symtab and .bss have their entries changed about
        byte[] file = Sample.file();
        byte[] bss = Arrays.copyOfRange(file, spot(BSS, 0), spot(BSS + 1, 0));
        System.arraycopy(file, spot(SYMTAB, 0), file, spot(BSS, 0), 40);
        System.arraycopy(bss, 0, file, spot(SYMTAB, 0), 40);
        Spoiled s = new Spoiled(C, file).entry(RELA, LINK, BSS);
        s.sound("changed about");
        s.entry(SYMTAB, BYTES, 5000).due(".bss, which is entry 7", 19, spot(SYMTAB, BYTES));
        s.entry(BSS, BYTES, 0).due(".symtab, which is entry 4, first", 19, spot(BSS, BYTES));
    }

    private static void missingIsEmpty() {
        C.sentence("what is missing is empty, with alignment 1");
        Model.Obj o = object(3, 4, 5);
        o.bss = 6;
        o.align = new int[] {2, 4, 8, 16};
        String[] sections = {".text", ".rodata", ".data", ".bss"};
        for (int s = 0; s < 4; s++) {
            Use x = new Use().load(Model.written(o));
            C.due("read", x.read(), 0);
            x.load(without(o, sections[s]).row());
            C.due("read without " + sections[s], x.read(), 0);
            for (int other = 0; other < 4; other++) {
                C.due("section " + other + " 0", x.section(other, 0), other == s ? 0 : 3 + other);
                C.due("section " + other + " 1", x.section(other, 1), other == s ? 1 : 2 << other);
            }
            C.due("at", x.at(s, 0), -1);
            C.due("count 0", x.count(0), 0);
            C.due("count 2", x.count(2), 0);
        }
        Use y = new Use().load(without(o, sections).row());
        C.due("read without all", y.read(), 0);
        for (int s = 0; s < 4; s++) {
            C.due("section " + s + " 0", y.section(s, 0), 0);
            C.due("section " + s + " 1", y.section(s, 1), 1);
        }
        y.keep();
        C.due("write", y.write(), 444);
        // a START without .text, which is empty then
        Model.Obj st = object(2, 0, 0);
        st.bytes[0][0] = 3;
        st.starts.add(0);
        without(st).sound("a START with .text");
        without(st, ".text").due("a START without .text", 33, 54);
    }

    // ---- 20

    private static void fault20() {
        C.sentence("20 .strtab has no bytes, or its first or last one isn't 0 (place: how many, the byte).");
        entry(STRTAB, BYTES, 0).due("no bytes", 20, spot(STRTAB, BYTES));
        for (int b : new int[] {1, 'a', 255}) {
            sample().set(160, 1, b).due("the first byte " + b, 20, 160);
            sample().set(169, 1, b).due("the last byte " + b, 20, 169);
        }
        sample().set(160, 1, 1).set(169, 1, 1).due("both", 20, 160);
        entry(STRTAB, BYTES, 9).due("the last byte of fewer", 20, 168);
        entry(STRTAB, BEGIN, 161).entry(STRTAB, BYTES, 9).due("the first byte of fewer", 20, 161);
        entry(STRTAB, BYTES, 1).due("one byte 0", 22, Sample.SYMTAB + 16);
        entry(STRTAB, BEGIN, 165).entry(STRTAB, BYTES, 1).due("one byte", 20, 165);
        of(object(0, 0, 0)).sound("one byte 0");
    }
}
