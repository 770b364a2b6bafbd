import java.util.ArrayList;
import java.util.Arrays;
import java.util.Collections;
import java.util.List;
import java.util.Random;

/** Runs of calls by a fixed seed: the program answers as the model does, for sound files and for spoiled ones. */
public final class ModelTest {
    private static final int[] KINDS = {1, 16, 17, 19, 23, 24, 25, 26, 27, 28, 33, 34, 35, 37, 38, 39, 43, 44, 45, 51};
    private static final int[] ODD = {Integer.MIN_VALUE, Integer.MIN_VALUE + 1, -65536, -2, -1, 0, 1, 2, 3, 4, 5, 6, 7, 8,
        9, 15, 16, 17, 62, 63, 64, 65, 99, 100, 101, 126, 127, 128, 255, 256, 299, 300, 301, 1023, 1024, 2046, 2047, 2048,
        2049, 4095, 4096, 4097, 8191, 8192, 8193, 65521, 65522, 65535, 65536, Integer.MAX_VALUE - 1, Integer.MAX_VALUE};
    private static final Check CHECK = new Check();
    private static final int[] SEEN = new int[35];

    public static void main(String[] args) {
        for (int seed = 0; seed < 400 && CHECK.wrong() == 0; seed++) {
            spoiledFiles(new Random(seed));
            shuffledFiles(new Random(seed + 100000));
            anyCalls(new Random(seed + 200000));
            wildFiles(new Random(seed + 300000));
        }
        for (int fault = 0; fault < SEEN.length; fault++) {
            CHECK.that(SEEN[fault] > 0, "fault " + fault + " was met");
        }
        CHECK.end();
    }

    private static int odd(Random r) {
        return ODD[r.nextInt(ODD.length)];
    }

    private static String name(Random r) {
        StringBuilder text = new StringBuilder();
        int n = 1 + (r.nextInt(4) == 0 ? r.nextInt(16) : r.nextInt(3));
        for (int k = 0; k < n; k++) {
            text.append(r.nextInt(10) == 0 ? (char) (33 + r.nextInt(94)) : (char) ('a' + r.nextInt(2)));
        }
        return text.toString();
    }

    /** An object of some 60 calls, and now and then one that has much of one thing. */
    private static void make(Pair p, Random r) {
        int much = r.nextInt(24);
        for (int s = 0; s < 3; s++) {
            int n = much == s ? 150 + r.nextInt(107) : r.nextInt(12);
            for (int k = 0; k < n; k++) {
                long eight = r.nextLong() | (r.nextInt(2) == 0 ? 0x0303030303030303L : 0);
                p.put(s, much == s ? 8 : 1 + r.nextInt(8), eight);
            }
            if (r.nextBoolean()) {
                p.align(s, r.nextInt(7));
            }
        }
        p.bss(r.nextInt(4097));
        p.align(3, r.nextInt(7));
        int at = 0;
        for (int k = much == 3 ? 100 : r.nextInt(12); k > 0 && at < p.m.made.bytes[0].length; k--) {
            p.start(at);
            at += 2 + 2 * r.nextInt(3);
        }
        int symbols = much == 4 ? 60 : r.nextInt(8);
        for (int k = 0; k < symbols && p.left() > 100; k++) {
            goodSymbol(p, r);
        }
        int relocations = much == 5 ? 301 : r.nextInt(8);
        for (int k = 0; k < relocations && p.left() > 80; k++) {
            goodRelocation(p, r);
        }
    }

    private static void goodSymbol(Pair p, Random r) {
        p.name(name(r));
        int where = r.nextInt(7) - 1;
        int bind = r.nextInt(3);
        int type = r.nextInt(3);
        if (where == -1) {
            p.symbol(where, 0, 0, 1 + r.nextInt(2), type);
        } else if (where == 4) {
            p.symbol(where, r.nextBoolean() ? odd(r) : r.nextInt(), r.nextInt() & Integer.MAX_VALUE, bind, type);
        } else if (where == 5) {
            p.symbol(where, 1 << r.nextInt(7), 1 + r.nextInt(4096), 1, type);
        } else {
            int room = (int) p.m.made.room(where);
            int value = r.nextInt(room + 1);
            p.symbol(where, value, r.nextInt(room - value + 1), bind, type);
        }
    }

    private static void goodRelocation(Pair p, Random r) {
        int kind = KINDS[r.nextInt(KINDS.length)];
        int s = Model.ANYWHERE.contains(kind) ? r.nextInt(3) : 0;
        int addend = kind == 43 ? 2 * r.nextInt(32) : r.nextInt();
        int width = kind == 43 ? addend : Model.WIDTHS.get(kind);
        int room = (int) p.m.made.room(s) - width;
        int symbol = kind == 43 || kind == 51 ? -1 : r.nextInt(Math.max(1, p.m.made.syms.size()));
        if (room >= 0) {
            p.relocation(s, r.nextInt(room + 1), kind, symbol, addend);
        }
    }

    private static int readAndCount(Pair p) {
        int fault = p.read();
        if (fault >= 0 && fault < SEEN.length) {
            SEEN[fault]++;
        }
        return fault;
    }

    private static void spoiledFiles(Random r) {
        Pair base = new Pair(CHECK);
        make(base, r);
        int n = base.write();
        base.sameFile();
        if (n < 0) {
            return;
        }
        Pair sound = base.copy();
        readAndCount(sound);
        sound.sameRead();
        for (int k = 0; k < 100; k++) {
            spoilAndRead(k % 2 == 0 ? base : sound, r);
        }
    }

    private static void spoilAndRead(Pair base, Random r) {
        Pair p = base.copy();
        int times = 1 + (r.nextInt(3) == 0 ? r.nextInt(3) : 0);
        for (int i = 0; i < times && p.left() > 12; i++) {
            spoilSome(p, r);
        }
        int fault = readAndCount(p);
        if (fault == 0 || r.nextInt(20) == 0) {
            p.sameRead();
        }
        if (fault == 0 && r.nextInt(4) == 0) {
            p.keep();
            if (p.write() > 0) {
                p.sameFile();
                readAndCount(p);
                p.sameRead();
            }
        }
    }

    private static void spoilSome(Pair p, Random r) {
        byte[] f = p.m.file;
        if (f.length < 52) {
            return;
        }
        int table = (int) p.m.u(32, 4);
        int many = (int) p.m.u(48, 2);
        if (table < 52 || table + 40 * many > f.length || many < 1) {
            p.spoil(r.nextInt(f.length), r.nextInt());
            return;
        }
        int e = table + 40 * r.nextInt(many);
        int pick = r.nextInt(10);
        if (pick == 0) {
            p.spoil(r.nextInt(52), r.nextInt(3) == 0 ? r.nextInt() : r.nextInt(4));
        } else if (pick <= 3) {
            int spot = e + 4 * r.nextInt(10);
            long old = p.m.u(spot, 4);
            long[] to = {odd(r), old + 1, old - 1, old + 4, old - 4, old + 16, old - 16, 0, r.nextInt(), old ^ 1L << r.nextInt(32)};
            p.spoil4(spot, to[r.nextInt(to.length)]);
        } else if (pick == 4) {
            int which = 4 * r.nextInt(10);
            p.spoil4(e + which, p.m.u(table + 40 * r.nextInt(many) + which, 4));
        } else if (pick <= 8) {
            spoilPart(p, r, e);
        } else if (r.nextInt(6) == 0) {
            p.cut(r.nextInt(f.length + 1));
        } else {
            p.spoil(r.nextInt(f.length), r.nextInt());
        }
    }

    private static void spoilPart(Pair p, Random r, int e) {
        long begin = p.m.u(e + 16, 4);
        long bytes = p.m.u(e + 20, 4);
        if (bytes == 0 || begin + bytes > p.m.file.length) {
            return;
        }
        int at = (int) begin + r.nextInt((int) bytes);
        int old = p.m.byteAt(at);
        int[] to = {0, 1, old + 1, old - 1, old ^ 16, old ^ 32, r.nextInt(), 255, old ^ 1 << r.nextInt(8), r.nextInt(64)};
        p.spoil(at, to[r.nextInt(to.length)]);
    }

    /** Files that the program would not write so: parts and entries in any order, some missing, gaps between. */
    private static void shuffledFiles(Random r) {
        Pair p = new Pair(CHECK);
        make(p, r);
        if (p.write() < 0) {
            return;
        }
        byte[] f = p.m.file;
        for (int k = 0; k < 6; k++) {
            byte[] g = shuffled(p, f, r);
            if (g.length > 3400) {
                continue;
            }
            Pair q = new Pair(CHECK);
            q.load(g);
            for (int i = 0; i < 12; i++) {
                spoilAndRead(q, r);
            }
            readAndCount(q);
            q.sameRead();
        }
    }

    private static byte[] shuffled(Pair p, byte[] f, Random r) {
        p.m.file = f;
        int table = (int) p.m.u(32, 4);
        int many = (int) p.m.u(48, 2);
        List<Integer> order = new ArrayList<>();
        int missing = r.nextInt(3) == 0 ? r.nextInt(many) : 0;
        for (int e = 1; e < many; e++) {
            if (e != missing) {
                order.add(e);
            }
        }
        Collections.shuffle(order, r);
        int[] now = new int[many];
        for (int k = 0; k < order.size(); k++) {
            now[order.get(k)] = k + 1;
        }
        List<Integer> parts = new ArrayList<>(order);
        parts.add(0);
        Collections.shuffle(parts, r);
        Model.Out out = new Model.Out().all(Arrays.copyOf(f, 52));
        int[] begin = new int[many];
        for (int e : parts) {
            int entry = table + 40 * e;
            for (int k = r.nextInt(4); k > 0; k--) {
                out.u1(r.nextInt(256));
            }
            out.upTo(e == 0 ? 4 : (int) p.m.u(entry + 32, 4));
            begin[e] = out.size();
            if (e == 0) {
                out.all(new byte[40 * (order.size() + 1)]);
            } else if (p.m.u(entry + 4, 4) != 8) {
                int from = (int) p.m.u(entry + 16, 4);
                out.all(Arrays.copyOfRange(f, from, from + (int) p.m.u(entry + 20, 4)));
            }
        }
        p.m.file = out.toByteArray();
        set(p, 32, 4, begin[0]);
        set(p, 48, 2, order.size() + 1);
        set(p, 50, 2, now[(int) p.m.u(50, 2)]);
        for (int e : order) {
            int to = begin[0] + 40 * now[e];
            System.arraycopy(f, table + 40 * e, p.m.file, to, 40);
            set(p, to + 16, 4, begin[e]);
            int sort = (int) p.m.u(to + 4, 4);
            if (sort == 4 || sort == 2) {
                set(p, to + 24, 4, now[(int) p.m.u(to + 24, 4)]);
            }
            if (sort == 4) {
                set(p, to + 28, 4, now[(int) p.m.u(to + 28, 4)]);
            }
            if (sort == 2) {
                renumberSymbols(p, begin[e], (int) p.m.u(to + 20, 4), now);
            }
        }
        return p.m.file;
    }

    private static void renumberSymbols(Pair p, int begin, int bytes, int[] now) {
        for (int at = begin + 16; at < begin + bytes; at += 16) {
            int where = (int) p.m.u(at + 14, 2);
            if (where < now.length) {
                set(p, at + 14, 2, now[where]);
            }
        }
    }

    private static void set(Pair p, int at, int bytes, long v) {
        for (int k = 0; k < bytes; k++) {
            p.m.file[at + k] = (byte) (v >> 8 * k);
        }
    }

    /** Calls with arguments at and beyond all edges. */
    private static void anyCalls(Random r) {
        Pair p = new Pair(CHECK);
        while (p.left() > 30) {
            switch (r.nextInt(22)) {
                case 0 -> {
                    if (r.nextInt(20) == 0) {
                        p.clear();
                    }
                }
                case 1, 2 -> p.put(r.nextBoolean() ? r.nextInt(3) : odd(r), r.nextBoolean() ? 8 : odd(r), r.nextLong());
                case 3 -> p.bss(odd(r));
                case 4 -> p.align(r.nextBoolean() ? r.nextInt(4) : odd(r), odd(r));
                case 5 -> p.start(r.nextBoolean() ? odd(r) : r.nextInt(64));
                case 6, 7, 8 -> p.letter(r.nextInt(4) == 0 ? odd(r) : 33 + r.nextInt(94));
                case 9, 10 -> p.symbol(r.nextInt(8) - 2, odd(r), odd(r), r.nextInt(5) - 1, r.nextInt(5) - 1);
                case 11 -> {
                    p.name(name(r));
                    p.symbol(r.nextBoolean() ? r.nextInt(6) - 1 : odd(r), r.nextBoolean() ? 0 : odd(r),
                            r.nextBoolean() ? 0 : odd(r), r.nextInt(3), r.nextInt(3));
                }
                case 12 -> goodSymbol(p, r);
                case 13 -> goodRelocation(p, r);
                case 14 -> p.relocation(r.nextInt(5) - 1, r.nextBoolean() ? r.nextInt(32) : odd(r),
                        r.nextBoolean() ? KINDS[r.nextInt(KINDS.length)] : r.nextInt(70) - 5, r.nextInt(6) - 2, odd(r));
                case 15 -> p.write();
                case 16 -> p.feed(odd(r), r.nextLong());
                case 17 -> p.cut(r.nextInt(4) == 0 ? odd(r) : p.m.file.length);
                case 18 -> p.spoil(r.nextBoolean() ? odd(r) : r.nextInt(60), odd(r));
                case 19 -> p.read();
                case 20 -> {
                    if (r.nextInt(10) == 0) {
                        p.keep();
                    }
                }
                default -> p.askBetween(odd(r), odd(r));
            }
        }
        p.sameFile();
        p.sameRead();
    }

    /** A sound header before bytes of any kind. */
    private static void wildFiles(Random r) {
        Pair p = new Pair(CHECK);
        byte[] g = new byte[r.nextInt(800)];
        for (int k = 0; k < g.length; k++) {
            g[k] = (byte) (r.nextInt(3) == 0 ? r.nextInt() : r.nextInt(4));
        }
        byte[] head = Arrays.copyOf(Model.written(new Model.Obj()), 52);
        System.arraycopy(head, 0, g, 0, Math.min(52, g.length));
        if (g.length > 200) {
            g[32] = (byte) (52 + 4 * r.nextInt(20));
            g[33] = 0;
            Arrays.fill(g, g[32] & 255, (g[32] & 255) + 40, (byte) 0);
        }
        p.load(g);
        readAndCount(p);
        p.sameRead();
    }
}
