import java.util.function.UnaryOperator;

/** READING: of two faults the one that is looked at first is told; with a fault the READ object stays. */
public final class OrderTest {
    private static final Check C = new Check();
    private static final int AIN = Sample.SYMTAB + 16;
    private static final int N = Sample.SYMTAB + 48;
    private static final int FIRST = Sample.RELA;
    private static final int SECOND = Sample.RELA + 12;

    /** A change that brings the fault of its number, and the place that is told then. */
    private record Change(int place, UnaryOperator<Spoiled> change) {
    }

    private static final Change[] CHANGES = new Change[35];

    private static int spot(int e, int number) {
        return Sample.TABLE + 40 * e + 4 * number;
    }

    private static void change(int fault, int place, UnaryOperator<Spoiled> change) {
        CHANGES[fault] = new Change(place, change);
    }

    /** Those of one number of the entries, symbols or relocations that are looked at one by one are of the same one. */
    private static void changes() {
        change(1, 51, s -> s.cut(51));
        change(2, 0, s -> s.set(0, 1, 0));
        change(3, 4, s -> s.set(4, 1, 9));
        change(4, 5, s -> s.set(5, 1, 9));
        change(5, 6, s -> s.set(6, 1, 9));
        change(6, 7, s -> s.set(7, 1, 9));
        change(7, 16, s -> s.set(16, 2, 9));
        change(8, 18, s -> s.set(18, 2, 9));
        change(9, 20, s -> s.set(20, 4, 9));
        change(10, 32, s -> s.cut(643));
        change(11, spot(2, 1), s -> s.entry(2, 1, 5));
        change(12, spot(2, 4), s -> s.entry(2, 5, 9999));
        change(13, spot(2, 8), s -> s.entry(2, 8, 3));
        change(14, spot(2, 4), s -> s.entry(2, 4, 56));
        change(15, Sample.SHSTRTAB, s -> s.set(Sample.SHSTRTAB, 1, 1));
        change(16, spot(1, 0), s -> s.entry(1, 0, 0));
        change(17, spot(1, 2), s -> s.entry(1, 2, 0));
        change(18, 50, s -> s.entry(8, 0, 61).entry(9, 0, 53).entry(7, 6, 9));
        change(19, spot(4, 5), s -> s.entry(4, 5, 5000));
        change(20, Sample.STRTAB, s -> s.set(Sample.STRTAB, 1, 1));
        change(21, Sample.SYMTAB, s -> s.set(Sample.SYMTAB, 1, 1));
        change(22, AIN, s -> s.set(AIN, 4, 0));
        change(23, AIN + 12, s -> s.set(AIN + 12, 1, 3));
        change(24, N + 12, s -> s.set(N + 12, 1, 0));
        change(25, N + 14, s -> s.set(N + 14, 2, 99));
        change(26, N + 4, s -> s.set(N + 4, 4, 1));
        change(27, N, s -> s.set(N, 4, 5));
        change(28, spot(7, 7), s -> s.entry(7, 7, 9));
        change(29, FIRST + 4, s -> s.set(FIRST + 4, 1, 0));
        change(30, FIRST + 4, s -> s.set(FIRST + 5, 3, 9));
        change(31, SECOND + 8, s -> s.set(SECOND + 4, 4, 43).set(SECOND + 8, 4, 3));
        change(32, SECOND, s -> s.set(SECOND, 4, 99));
        change(33, Sample.STARTS, s -> s.set(Sample.STARTS, 2, 1));
        change(34, 36, s -> s.set(36, 4, 0));
    }

    public static void main(String[] args) {
        changes();
        eachAlone();
        theFirstOfTwo();
        theReadObjectStays();
        C.end();
    }

    private static Spoiled sample() {
        return new Spoiled(C, Sample.file());
    }

    private static void eachAlone() {
        C.sentence("PLACE being where what is at fault begins (a number of the file, unless something else is told)");
        for (int fault = 1; fault <= 34; fault++) {
            CHANGES[fault].change.apply(sample()).due("fault " + fault, fault, CHANGES[fault].place);
        }
    }

    private static void theFirstOfTwo() {
        C.sentence("READING the FILE (n bytes) looks at all that follows in this order; the first FAULT ends it");
        for (int one = 1; one <= 34; one++) {
            for (int two = one + 1; two <= 34; two++) {
                // what cuts the file is done behind what changes it
                boolean cutsFirst = one == 1 || one == 10;
                Spoiled s = CHANGES[cutsFirst ? two : one].change.apply(sample());
                s = CHANGES[cutsFirst ? one : two].change.apply(s);
                s.due("faults " + one + " and " + two, one, CHANGES[one].place);
            }
        }
    }

    private static void theReadObjectStays() {
        C.sentence("With one it stays.");
        for (int fault = 1; fault <= 34; fault++) {
            Use x = new Use();
            x.put(2, 3, 0x0102030000000000L);
            x.align(2, 5);
            x.symbol("was", 2, 1, 2, 1);
            x.relocation(2, 2, 33, 0, -3);
            int n = x.write();
            C.due("read", x.read(), 0);
            x.load(CHANGES[fault].change.apply(sample()).row());
            C.due("read", x.read(), fault);
            C.due("place", x.place(), CHANGES[fault].place);
            int[] lengths = {0, 0, 3, 0};
            for (int s = 0; s < 4; s++) {
                C.due("section " + s + " 0 behind fault " + fault, x.section(s, 0), lengths[s]);
                C.due("section " + s + " 1 behind fault " + fault, x.section(s, 1), s == 2 ? 32 : 1);
            }
            C.due("at", x.at(2, 1), 2);
            int[] counts = {0, 1, 1, 0};
            for (int what = 0; what < 4; what++) {
                C.due("count " + what, x.count(what), counts[what]);
            }
            int[] symbol = {2, 1, 2, 1, 0, 3, 'w', 'a', 's', -1};
            for (int what = 0; what < symbol.length; what++) {
                C.due("symbolAt 0 " + what, x.symbolAt(0, what), symbol[what]);
            }
            int[] relocation = {2, 2, 33, 0, -3};
            for (int what = 0; what < relocation.length; what++) {
                C.due("relocationAt 0 " + what, x.relocationAt(0, what), relocation[what]);
            }
            C.due("the MADE object stays", x.write(), n);
            C.due("place stays", x.place(), CHANGES[fault].place);
            C.due("read", x.read(), 0);
            C.due("place", x.place(), -1);
        }
    }
}
