import java.io.ByteArrayOutputStream;
import java.nio.charset.StandardCharsets;
import java.util.ArrayList;
import java.util.Arrays;
import java.util.HashMap;
import java.util.HashSet;
import java.util.LinkedHashMap;
import java.util.List;
import java.util.Map;
import java.util.Set;

/** The document a second time, written with the Java library and in another way, to hold the program against. */
final class Model {
    static final List<String> NAMES = List.of(".text", ".rodata", ".data", ".bss", ".starts", ".rela.text",
            ".rela.rodata", ".rela.data", ".symtab", ".strtab", ".shstrtab");
    static final Map<Integer, Integer> WIDTHS = new HashMap<>();
    static final Set<Integer> ANYWHERE = Set.of(1, 33, 34, 35, 37, 38, 39);

    static {
        for (int k : new int[] {33, 37}) {
            WIDTHS.put(k, 1);
        }
        for (int k : new int[] {34, 38, 44, 45}) {
            WIDTHS.put(k, 2);
        }
        for (int k : new int[] {1, 16, 17, 23, 24, 25, 26, 27, 28, 35, 39}) {
            WIDTHS.put(k, 4);
        }
        WIDTHS.put(19, 8);
        WIDTHS.put(51, 0);
        WIDTHS.put(43, null);
    }

    record Sym(String name, int where, int value, int size, int bind, int type) {
    }

    record Rel(int s, int at, int kind, int sym, int addend) {
        long width() {
            return kind == 43 ? addend : WIDTHS.get(kind);
        }
    }

    static final class Obj {
        byte[][] bytes = {new byte[0], new byte[0], new byte[0]};
        int bss;
        int[] align = {1, 1, 1, 1};
        List<Integer> starts = new ArrayList<>();
        List<Sym> syms = new ArrayList<>();
        List<Rel> rels = new ArrayList<>();

        long room(int s) {
            return s == 3 ? bss : bytes[s].length;
        }

        long shorts() {
            return starts.stream().filter(a -> (bytes[0][a] & 3) != 3).count();
        }

        Obj copy() {
            Obj o = new Obj();
            o.bytes = new byte[][] {bytes[0].clone(), bytes[1].clone(), bytes[2].clone()};
            o.bss = bss;
            o.align = align.clone();
            o.starts.addAll(starts);
            o.syms.addAll(syms);
            o.rels.addAll(rels);
            return o;
        }
    }

    static final class Fault extends Exception {
        private static final long serialVersionUID = 1;
        final int number;
        final long place;

        Fault(int number, long place) {
            this.number = number;
            this.place = place;
        }
    }

    Obj made = new Obj();
    Obj read = new Obj();
    byte[] file = new byte[0];
    String draft = "";
    int place = -1;

    Model copy() {
        Model c = new Model();
        c.made = made.copy();
        c.read = read.copy();
        c.file = file.clone();
        c.draft = draft;
        c.place = place;
        return c;
    }

    void clear() {
        made = new Obj();
        draft = "";
    }

    static byte[] join(byte[] a, int n, long eight) {
        byte[] b = Arrays.copyOf(a, a.length + n);
        for (int k = 0; k < n; k++) {
            b[a.length + k] = (byte) (eight >> 8 * (7 - k));
        }
        return b;
    }

    boolean put(int s, int n, long eight) {
        if (s < 0 || s > 2 || n < 1 || n > 8 || made.bytes[s].length + n > 2048) {
            return false;
        }
        made.bytes[s] = join(made.bytes[s], n, eight);
        return true;
    }

    boolean bss(int size) {
        if (size < 0 || size > 4096) {
            return false;
        }
        made.bss = size;
        return true;
    }

    boolean align(int s, int power) {
        if (s < 0 || s > 3 || power < 0 || power > 6) {
            return false;
        }
        made.align[s] = (int) Math.pow(2, power);
        return true;
    }

    boolean start(int at) {
        List<Integer> l = made.starts;
        if (at % 2 != 0 || at < 0 || at > 2046 || l.size() == 1024 || !l.isEmpty() && at <= l.get(l.size() - 1)) {
            return false;
        }
        return l.add(at);
    }

    boolean letter(int c) {
        if (c < 33 || c > 126 || draft.length() == 16) {
            return false;
        }
        draft += (char) c;
        return true;
    }

    static boolean powerOfTwo(long v) {
        return v == 1 || v == 2 || v == 4 || v == 8 || v == 16 || v == 32 || v == 64;
    }

    int symbol(int where, int value, int size, int bind, int type) {
        String name = draft;
        draft = "";
        if (made.syms.size() == 100 || name.isEmpty() || where < -1 || where > 5
                || bind < 0 || bind > 2 || type < 0 || type > 2) {
            return -1;
        }
        if (bind != 0 && made.syms.stream().anyMatch(y -> y.bind != 0 && y.name.equals(name))) {
            return -1;
        }
        boolean good;
        if (where == -1) {
            good = value == 0 && size == 0 && bind != 0;
        } else if (where == 5) {
            good = powerOfTwo(value) && 1 <= size && size <= 4096 && bind == 1;
        } else if (where == 4) {
            good = size >= 0;
        } else {
            good = value >= 0 && size >= 0;
        }
        if (!good) {
            return -1;
        }
        made.syms.add(new Sym(name, where, value, size, bind, type));
        return made.syms.size() - 1;
    }

    int relocation(int s, int at, int kind, int symbol, int addend) {
        boolean section = s == 0 || (s == 1 || s == 2) && ANYWHERE.contains(kind);
        boolean sym = kind == 43 || kind == 51 ? symbol == -1 : symbol >= 0 && symbol < made.syms.size();
        boolean add = kind != 43 || addend >= 0 && addend <= 62 && addend % 2 == 0;
        if (made.rels.size() == 300 || !section || !WIDTHS.containsKey(kind) || !sym || !add || at < 0) {
            return -1;
        }
        made.rels.add(new Rel(s, at, kind, symbol, addend));
        return made.rels.size() - 1;
    }

    // ---- writing

    static final class Out extends ByteArrayOutputStream {
        Out u1(long v) {
            write((int) v);
            return this;
        }

        Out u2(long v) {
            return u1(v & 255).u1(v >> 8 & 255);
        }

        Out u4(long v) {
            return u2(v & 65535).u2(v >> 16 & 65535);
        }

        Out upTo(int alignment) {
            while (size() % alignment != 0) {
                write(0);
            }
            return this;
        }

        Out all(byte[] b) {
            write(b, 0, b.length);
            return this;
        }
    }

    /** A string table as a text of characters 0 to 255. */
    static int placeIn(StringBuilder strings, String name) {
        int at = strings.indexOf(name + "\0");
        if (at < 0) {
            at = strings.length();
            strings.append(name).append('\0');
        }
        return at;
    }

    int write() {
        Obj m = made;
        if (m.starts.stream().anyMatch(a -> a >= m.bytes[0].length)) {
            return -1;
        }
        if (m.syms.stream().anyMatch(y -> y.where >= 0 && y.where <= 3 && (long) y.value + y.size > m.room(y.where))) {
            return -2;
        }
        if (m.rels.stream().anyMatch(r -> r.at + r.width() > m.room(r.s))) {
            return -3;
        }
        byte[] all = written(m);
        if (all.length > 8192) {
            return -4;
        }
        file = all;
        return all.length;
    }

    static byte[] written(Obj m) {
        List<Sym> order = new ArrayList<>();
        m.syms.stream().filter(y -> y.bind == 0).forEach(order::add);
        int locals = order.size();
        m.syms.stream().filter(y -> y.bind != 0).forEach(order::add);
        Map<String, Integer> entry = new LinkedHashMap<>();
        for (String n : NAMES) {
            boolean there = !n.equals(".starts") && !n.startsWith(".rela") || n.equals(".starts") && !m.starts.isEmpty();
            for (Rel r : m.rels) {
                there |= n.equals(".rela" + NAMES.get(r.s));
            }
            if (there) {
                entry.put(n, entry.size() + 1);
            }
        }
        StringBuilder strtab = new StringBuilder("\0");
        Out symtab = new Out().u4(0).u4(0).u4(0).u4(0);
        for (Sym y : order) {
            int where = y.where == -1 ? 0 : y.where == 4 ? 65521 : y.where == 5 ? 65522 : y.where + 1;
            symtab.u4(placeIn(strtab, y.name)).u4(y.value).u4(y.size).u1(16 * y.bind + y.type).u1(0).u2(where);
        }
        StringBuilder shstrtab = new StringBuilder("\0");
        Map<String, Integer> label = new HashMap<>();
        for (String n : entry.keySet()) {
            label.put(n, placeIn(shstrtab, n));
        }
        Out out = new Out().all(new byte[52]);
        Out table = new Out().all(new byte[40]);
        for (String n : entry.keySet()) {
            Out part = new Out();
            int k = NAMES.indexOf(n);
            int sort = 1;
            int flags = 0;
            int link = 0;
            int info = 0;
            int align = 1;
            int unit = 0;
            if (k < 4) {
                align = m.align[k];
                flags = new int[] {6, 2, 3, 3}[k];
                if (k == 3) {
                    sort = 8;
                } else {
                    part.all(m.bytes[k]);
                }
            } else if (n.equals(".starts")) {
                m.starts.forEach(part::u2);
                align = 2;
                unit = 2;
            } else if (n.startsWith(".rela")) {
                sort = 4;
                flags = 64;
                align = 4;
                unit = 12;
                link = entry.get(".symtab");
                info = entry.get(n.substring(5));
                for (Rel r : m.rels) {
                    if (n.equals(".rela" + NAMES.get(r.s))) {
                        int number = 0;
                        if (r.sym >= 0) {
                            for (int i = 0; i < order.size(); i++) {
                                if (order.get(i) == m.syms.get(r.sym)) {
                                    number = i + 1;
                                }
                            }
                        }
                        part.u4(r.at).u4(256L * number + r.kind).u4(r.addend);
                    }
                }
            } else if (n.equals(".symtab")) {
                sort = 2;
                align = 4;
                unit = 16;
                link = entry.get(".strtab");
                info = locals + 1;
                part.all(symtab.toByteArray());
            } else {
                sort = 3;
                StringBuilder text = n.equals(".strtab") ? strtab : shstrtab;
                part.all(text.toString().getBytes(StandardCharsets.ISO_8859_1));
            }
            int size = part.size();
            if (k == 3) {
                size = m.bss;
            } else {
                out.upTo(align);
            }
            table.u4(label.get(n)).u4(sort).u4(flags).u4(0).u4(out.size()).u4(size).u4(link).u4(info).u4(align).u4(unit);
            out.all(part.toByteArray());
        }
        out.upTo(4);
        int tableAt = out.size();
        out.all(table.toByteArray());
        Out header = new Out().u1(127).u1(69).u1(76).u1(70).u1(1).u1(1).u1(1).all(new byte[9]);
        header.u2(1).u2(243).u4(1).u4(0).u4(0).u4(tableAt).u4(m.shorts() > 0 ? 1 : 0);
        header.u2(52).u2(0).u2(0).u2(40).u2(entry.size() + 1).u2(entry.get(".shstrtab"));
        byte[] all = out.toByteArray();
        System.arraycopy(header.toByteArray(), 0, all, 0, 52);
        return all;
    }

    // ---- the file

    int byteAt(int k) {
        return k < 0 || k >= file.length ? -1 : file[k] & 255;
    }

    boolean feed(int n, long eight) {
        if (n < 1 || n > 8 || file.length + n > 8192) {
            return false;
        }
        file = join(file, n, eight);
        return true;
    }

    boolean cut(int n) {
        if (n < 0 || n > file.length) {
            return false;
        }
        file = Arrays.copyOf(file, n);
        return true;
    }

    int spoil(int k, int b) {
        int was = byteAt(k);
        if (was >= 0) {
            file = file.clone();
            file[k] = (byte) b;
        }
        return was;
    }

    // ---- reading

    long u(int at, int bytes) {
        long v = 0;
        for (int k = bytes - 1; k >= 0; k--) {
            v = v * 256 + (file[at + k] & 255);
        }
        return v;
    }

    private static void fail(boolean bad, int number, long place) throws Fault {
        if (bad) {
            throw new Fault(number, place);
        }
    }

    int read() {
        try {
            read = parse();
            place = -1;
            return 0;
        } catch (Fault f) {
            place = (int) f.place;
            return f.number;
        }
    }

    /** One entry of the table. */
    final class Entry {
        final int at;
        final long name;
        final long sort;
        final long flags;
        final long zero;
        final long begin;
        final long bytes;
        final long link;
        final long info;
        final long align;
        final long unit;
        final int number;
        String label;

        Entry(int at, int number) {
            this.at = at;
            this.number = number;
            name = u(at, 4);
            sort = u(at + 4, 4);
            flags = u(at + 8, 4);
            zero = u(at + 12, 4);
            begin = u(at + 16, 4);
            bytes = u(at + 20, 4);
            link = u(at + 24, 4);
            info = u(at + 28, 4);
            align = u(at + 32, 4);
            unit = u(at + 36, 4);
        }
    }

    private Obj parse() throws Fault {
        header();
        int table = (int) u(32, 4);
        int many = (int) u(48, 2);
        int namesNumber = (int) u(50, 2);
        List<Entry> entries = new ArrayList<>();
        boolean[] taken = new boolean[file.length];
        Arrays.fill(taken, table, table + 40 * many, true);
        for (int e = 0; e < many; e++) {
            entries.add(entry(table + 40 * e, e, taken));
        }
        Entry names = entries.get(namesNumber);
        fail(names.sort != 3, 15, names.at + 4);
        strings(names, 15);
        Map<String, Entry> by = labels(entries, names);
        numbers(entries, by);
        for (String n : List.of(".symtab", ".strtab", ".shstrtab")) {
            fail(!by.containsKey(n), 18, 50);
        }
        fail(by.get(".shstrtab") != names, 18, 50);
        lengths(entries);
        strings(by.get(".strtab"), 20);
        Obj o = new Obj();
        for (int s = 0; s < 4; s++) {
            Entry e = by.get(NAMES.get(s));
            if (e != null) {
                o.align[s] = (int) e.align;
                if (s == 3) {
                    o.bss = (int) e.bytes;
                } else {
                    o.bytes[s] = Arrays.copyOfRange(file, (int) e.begin, (int) (e.begin + e.bytes));
                }
            }
        }
        symbols(o, by, entries);
        for (int s = 0; s < 3; s++) {
            Entry e = by.get(".rela" + NAMES.get(s));
            for (int k = 0; e != null && k < e.bytes; k += 12) {
                o.rels.add(relocation(o, s, (int) e.begin + k));
            }
        }
        Entry e = by.get(".starts");
        int before = -1;
        for (int k = 0; e != null && k < e.bytes; k += 2) {
            int at = (int) e.begin + k;
            int start = (int) u(at, 2);
            fail(start % 2 == 1 || start <= before || start >= o.bytes[0].length, 33, at);
            o.starts.add(start);
            before = start;
        }
        fail(u(36, 4) != (o.shorts() > 0 ? 1 : 0), 34, 36);
        return o;
    }

    private void header() throws Fault {
        int n = file.length;
        fail(n < 52, 1, n);
        byte[] mark = {127, 69, 76, 70};
        for (int k = 0; k < 4; k++) {
            fail(file[k] != mark[k], 2, k);
        }
        fail(file[4] != 1, 3, 4);
        fail(file[5] != 1, 4, 5);
        fail(file[6] != 1, 5, 6);
        for (int k = 7; k < 16; k++) {
            fail(file[k] != 0, 6, k);
        }
        fail(u(16, 2) != 1, 7, 16);
        fail(u(18, 2) != 243, 8, 18);
        fail(u(20, 4) != 1, 9, 20);
        fail(u(24, 4) != 0, 9, 24);
        fail(u(28, 4) != 0, 9, 28);
        fail(u(32, 4) % 4 != 0 || u(32, 4) < 52, 9, 32);
        fail(u(36, 4) != 0 && u(36, 4) != 1, 9, 36);
        fail(u(40, 2) != 52, 9, 40);
        fail(u(42, 2) != 0, 9, 42);
        fail(u(44, 2) != 0, 9, 44);
        fail(u(46, 2) != 40, 9, 46);
        fail(u(48, 2) < 1 || u(48, 2) > 16, 9, 48);
        fail(u(50, 2) < 1 || u(50, 2) >= u(48, 2), 9, 50);
        fail(u(32, 4) + 40 * u(48, 2) > n, 10, 32);
    }

    private Entry entry(int at, int number, boolean[] taken) throws Fault {
        if (number == 0) {
            for (int k = 0; k < 10; k++) {
                fail(u(at + 4 * k, 4) != 0, 11, at + 4 * k);
            }
            return new Entry(at, 0);
        }
        Entry e = new Entry(at, number);
        fail(!Set.of(1L, 2L, 3L, 4L, 8L).contains(e.sort), 11, at + 4);
        boolean inFile = e.sort != 8;
        fail(inFile && (e.begin + e.bytes > file.length || e.bytes != 0 && e.begin < 52), 12, at + 16);
        fail(!powerOfTwo(e.align), 13, at + 32);
        fail(inFile && e.begin % e.align != 0, 13, at + 32);
        if (inFile) {
            for (int k = 0; k < e.bytes; k++) {
                fail(taken[(int) e.begin + k], 14, at + 16);
            }
            for (int k = 0; k < e.bytes; k++) {
                taken[(int) e.begin + k] = true;
            }
        }
        return e;
    }

    private void strings(Entry e, int number) throws Fault {
        fail(e.bytes == 0, number, e.at + 20);
        fail(file[(int) e.begin] != 0, number, e.begin);
        fail(file[(int) (e.begin + e.bytes - 1)] != 0, number, e.begin + e.bytes - 1);
    }

    private String text(Entry strings, long at) {
        if (at >= strings.bytes) {
            return null;
        }
        String all = new String(file, (int) strings.begin, (int) strings.bytes, StandardCharsets.ISO_8859_1);
        return all.substring((int) at, all.indexOf('\0', (int) at));
    }

    private Map<String, Entry> labels(List<Entry> entries, Entry names) throws Fault {
        Map<String, Entry> by = new HashMap<>();
        for (Entry e : entries.subList(1, entries.size())) {
            e.label = text(names, e.name);
            fail(e.label == null || !NAMES.contains(e.label) || by.put(e.label, e) != null, 16, e.at);
        }
        return by;
    }

    private void numbers(List<Entry> entries, Map<String, Entry> by) throws Fault {
        for (Entry e : entries.subList(1, entries.size())) {
            boolean rela = e.label.startsWith(".rela.");
            long sort = 1;
            long flags = 0;
            long unit = 0;
            switch (e.label) {
                case ".text" -> flags = 6;
                case ".rodata" -> flags = 2;
                case ".data" -> flags = 3;
                case ".bss" -> {
                    flags = 3;
                    sort = 8;
                }
                case ".starts" -> unit = 2;
                case ".symtab" -> {
                    sort = 2;
                    unit = 16;
                }
                case ".strtab", ".shstrtab" -> sort = 3;
                default -> {
                    sort = 4;
                    flags = 64;
                    unit = 12;
                }
            }
            fail(e.sort != sort, 17, e.at + 4);
            fail(e.flags != flags, 17, e.at + 8);
            fail(e.zero != 0, 17, e.at + 12);
            String linked = rela ? ".symtab" : e.label.equals(".symtab") ? ".strtab" : null;
            fail(!tells(e.link, linked, by), 17, e.at + 24);
            if (!e.label.equals(".symtab")) {
                fail(!tells(e.info, rela ? e.label.substring(5) : null, by), 17, e.at + 28);
            }
            fail(e.unit != unit, 17, e.at + 36);
        }
    }

    private static boolean tells(long number, String label, Map<String, Entry> by) {
        if (label == null) {
            return number == 0;
        }
        return by.containsKey(label) && by.get(label).number == number;
    }

    private void lengths(List<Entry> entries) throws Fault {
        long relocations = 0;
        for (Entry e : entries.subList(1, entries.size())) {
            long b = e.bytes;
            boolean bad = false;
            switch (e.label) {
                case ".text", ".rodata", ".data" -> bad = b > 2048;
                case ".bss" -> bad = b > 4096;
                case ".starts" -> bad = b % 2 != 0 || b / 2 > 1024;
                case ".symtab" -> bad = b % 16 != 0 || b / 16 < 1 || b / 16 > 101;
                case ".strtab", ".shstrtab" -> bad = false;
                default -> {
                    bad = b % 12 != 0;
                    relocations += b / 12;
                    bad |= relocations > 300;
                }
            }
            fail(bad, 19, e.at + 20);
        }
    }

    private void symbols(Obj o, Map<String, Entry> by, List<Entry> entries) throws Fault {
        Entry tab = by.get(".symtab");
        int begin = (int) tab.begin;
        for (int k = 0; k < 16; k++) {
            fail(file[begin + k] != 0, 21, begin + k);
        }
        Set<String> globals = new HashSet<>();
        int locals = 0;
        for (int at = begin + 16; at < begin + tab.bytes; at += 16) {
            String name = text(by.get(".strtab"), u(at, 4));
            fail(name == null || !name.matches("[!-~]{1,16}"), 22, at);
            int bind = (int) u(at + 12, 1) / 16;
            int type = (int) u(at + 12, 1) % 16;
            fail(bind > 2 || type > 2, 23, at + 12);
            fail(file[at + 13] != 0, 23, at + 13);
            fail(bind == 0 && !globals.isEmpty(), 24, at + 12);
            int number = (int) u(at + 14, 2);
            int where = number == 0 ? -1 : number == 65521 ? 4 : number == 65522 ? 5 : 9;
            if (where == 9 && number < entries.size()) {
                int k = NAMES.indexOf(entries.get(number).label);
                where = k < 4 ? k : 9;
            }
            fail(where == 9, 25, at + 14);
            long value = u(at + 4, 4);
            long size = u(at + 8, 4);
            if (where == -1) {
                fail(value != 0, 26, at + 4);
                fail(size != 0, 26, at + 8);
                fail(bind == 0, 26, at + 12);
            } else if (where == 5) {
                fail(!powerOfTwo(value), 26, at + 4);
                fail(size < 1 || size > 4096, 26, at + 8);
                fail(bind != 1, 26, at + 12);
            } else if (where == 4) {
                fail(size >= 1L << 31, 26, at + 8);
            } else {
                fail(value > o.room(where), 26, at + 4);
                fail(value + size > o.room(where), 26, at + 8);
            }
            if (bind == 0) {
                locals++;
            } else {
                fail(!globals.add(name), 27, at);
            }
            o.syms.add(new Sym(name, where, (int) value, (int) size, bind, type));
        }
        fail(tab.info != locals + 1, 28, tab.at + 28);
    }

    private Rel relocation(Obj o, int s, int at) throws Fault {
        int kind = (int) u(at + 4, 1);
        fail(!WIDTHS.containsKey(kind) || s != 0 && !ANYWHERE.contains(kind), 29, at + 4);
        long number = u(at + 5, 3);
        fail(number > o.syms.size(), 30, at + 4);
        fail((kind == 43 || kind == 51) != (number == 0), 30, at + 4);
        long addend = u(at + 8, 4);
        fail(kind == 43 && (addend > 62 || addend % 2 == 1), 31, at + 8);
        Rel r = new Rel(s, (int) u(at, 4), kind, (int) number - 1, (int) addend);
        fail(u(at, 4) + r.width() > o.room(s), 32, at);
        return r;
    }

    // ---- asking

    void keep() {
        made = read.copy();
        draft = "";
    }

    int section(int s, int what) {
        if (s < 0 || s > 3 || what < 0 || what > 1) {
            return -1;
        }
        return what == 0 ? (int) read.room(s) : read.align[s];
    }

    int at(int s, int k) {
        return s < 0 || s > 2 || k < 0 || k >= read.bytes[s].length ? -1 : read.bytes[s][k] & 255;
    }

    int count(int what) {
        return switch (what) {
            case 0 -> read.starts.size();
            case 1 -> read.syms.size();
            case 2 -> read.rels.size();
            case 3 -> (int) read.shorts();
            default -> -1;
        };
    }

    int startAt(int k) {
        return k < 0 || k >= read.starts.size() ? -1 : read.starts.get(k);
    }

    int symbolAt(int k, int what) {
        if (k < 0 || k >= read.syms.size() || what < 0) {
            return -1;
        }
        Sym y = read.syms.get(k);
        int[] facts = {y.where, y.value, y.size, y.bind, y.type, y.name.length()};
        if (what < 6) {
            return facts[what];
        }
        return what - 6 < y.name.length() ? y.name.charAt(what - 6) : -1;
    }

    int relocationAt(int k, int what) {
        if (k < 0 || k >= read.rels.size() || what < 0 || what > 4) {
            return -1;
        }
        Rel r = read.rels.get(k);
        return new int[] {r.s, r.at, r.kind, r.sym, r.addend}[what];
    }
}
