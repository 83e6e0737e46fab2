/** Promises 9 to 13: multiplicity, isRuler, completeUpTo, differences, isFamily. */
public final class DifferencesTest {
    public static void main(String[] args) {
        multiplicity();
        isRuler();
        completeUpTo();
        differences();
        isFamily();
        Check.end("DifferencesTest");
    }

    private static void multiplicity() {
        RulerWorkbench x = Check.with(0, 3, 6, 9, 2000);
        Check.same("multiplicity of 3", x.multiplicity(0, 3), 3);
        Check.same("multiplicity of 6", x.multiplicity(0, 6), 2);
        Check.same("multiplicity of 9", x.multiplicity(0, 9), 1);
        Check.same("multiplicity of 1", x.multiplicity(0, 1), 0);
        Check.same("multiplicity of 2000", x.multiplicity(0, 2000), 1);
        Check.same("multiplicity in an empty set", x.multiplicity(1, 1), 0);
        Check.argument(x, "multiplicity(0, 0)", () -> x.multiplicity(0, 0));
        Check.argument(x, "multiplicity(0, -3)", () -> x.multiplicity(0, -3));
        Check.argument(x, "multiplicity(0, 2001)", () -> x.multiplicity(0, 2001));
        Check.index(x, "multiplicity(4, 0)", () -> x.multiplicity(4, 0));
        Check.index(x, "multiplicity(-1, 1)", () -> x.multiplicity(-1, 1));
    }

    private static void isRuler() {
        RulerWorkbench x = new RulerWorkbench();
        Check.yes("an empty set", x.isRuler(0));
        x.add(0, 5);
        Check.yes("one mark", x.isRuler(0));
        Check.put(x, 0, 6, 9, 11);
        Check.yes("5 6 9 11", x.isRuler(0));
        x.add(0, 2000);
        Check.yes("5 6 9 11 2000", x.isRuler(0));
        x.add(0, 1996);
        Check.no("4 twice", x.isRuler(0));
        Check.put(x, 1, 0, 1000, 2000);
        Check.no("1000 twice", x.isRuler(1));
        Check.index(x, "isRuler(4)", () -> x.isRuler(4) ? 1 : 0);
        Check.index(x, "isRuler(-1)", () -> x.isRuler(-1) ? 1 : 0);
    }

    private static void completeUpTo() {
        RulerWorkbench x = Check.with(0, 1, 4, 6);
        Check.same("0 1 4 6", x.completeUpTo(0), 6);
        x.add(0, 20);
        Check.same("0 1 4 6 20", x.completeUpTo(0), 6);
        x.remove(0, 1);
        Check.same("0 4 6 20", x.completeUpTo(0), 0);
        Check.same("an empty set", x.completeUpTo(1), 0);
        x.add(1, 9);
        Check.same("one mark", x.completeUpTo(1), 0);
        Check.put(x, 2, 10, 11, 12, 13);
        Check.same("10 11 12 13", x.completeUpTo(2), 3);
        for (int i = 0; i < 12; i++) {
            x.add(3, i);
            x.add(3, 12 * (i + 1) + 11);
        }
        Check.same("a comb", x.completeUpTo(3), 155);
        Check.index(x, "completeUpTo(4)", () -> x.completeUpTo(4));
        Check.index(x, "completeUpTo(-1)", () -> x.completeUpTo(-1));
    }

    private static void differences() {
        RulerWorkbench x = Check.with(0, 2, 4);
        Check.same("0 2 4", x.differences(0), 2);
        Check.put(x, 0, 2000);
        Check.same("0 2 4 2000", x.differences(0), 5);
        Check.same("an empty set", x.differences(1), 0);
        x.add(1, 1);
        Check.same("one mark", x.differences(1), 0);
        x.erdosTuran(23, 2);
        Check.same("a ruler with 23 marks", x.differences(2), 253);
        Check.index(x, "differences(4)", () -> x.differences(4));
        Check.index(x, "differences(-1)", () -> x.differences(-1));
    }

    private static void isFamily() {
        RulerWorkbench x = new RulerWorkbench();
        for (int mask = 0; mask < 16; mask++) {
            Check.yes("empty sets", x.isFamily(mask));
        }
        Check.put(x, 0, 0, 1, 4);
        Check.put(x, 1, 10, 12, 17);
        Check.put(x, 2, 100, 106, 115);
        Check.put(x, 3, 7, 11);
        Check.yes("1 3 4, 2 5 7", x.isFamily(3));
        Check.yes("1 3 4, 2 5 7, 6 9 15", x.isFamily(7));
        Check.yes("2 5 7, 6 9 15, 4", x.isFamily(14));
        Check.no("4 twice in two sets", x.isFamily(9));
        Check.no("4 twice in four sets", x.isFamily(15));
        Check.yes("4 alone", x.isFamily(8));
        x.add(1, 22);
        Check.no("5 twice in one set", x.isFamily(2));
        Check.yes("without the bad set", x.isFamily(5));
        Check.yes("no sets", x.isFamily(0));
        Check.argument(x, "isFamily(-1)", () -> x.isFamily(-1) ? 1 : 0);
        Check.argument(x, "isFamily(16)", () -> x.isFamily(16) ? 1 : 0);
        Check.argument(x, "isFamily(MIN)", () -> x.isFamily(Integer.MIN_VALUE) ? 1 : 0);
    }
}
