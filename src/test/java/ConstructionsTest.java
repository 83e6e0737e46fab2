/** Promises 23 to 26: erdosTuran, ruzsa, residues, extend. */
public final class ConstructionsTest {
    private static final int[] PRIMES = {3, 5, 7, 11, 13, 17, 19, 23};

    public static void main(String[] args) {
        erdosTuran();
        ruzsa();
        primitiveRoots();
        residues();
        extend();
        extendWrong();
        wrongPrimes();
        Check.end("ConstructionsTest");
    }

    private static void erdosTuran() {
        RulerWorkbench x = Check.with(9);
        Check.same("erdosTuran(5, 0)", x.erdosTuran(5, 0), 41);
        Check.marks("erdosTuran(5, 0)", x, 0, 0, 11, 24, 34, 41);
        Check.same("the modulus stays", x.setModulus(31), 31);
        x.undo();
        Check.same("erdosTuran is undoable", x.undo(), 1);
        Check.marks("undone", x, 0, 9);
        for (int p : PRIMES) {
            x.erdosTuran(p, 3);
            Check.same("erdosTuran: marks", x.size(3), p);
            Check.yes("erdosTuran: a ruler", x.isRuler(3));
        }
        Check.same("erdosTuran(23, 3)", x.length(3), 1013);
    }

    private static void ruzsa() {
        RulerWorkbench x = Check.with(9);
        Check.same("ruzsa(5, 2, 0)", x.ruzsa(5, 2, 0), 9);
        Check.marks("ruzsa(5, 2, 0)", x, 0, 4, 6, 7, 13);
        Check.same("the modulus is p * (p - 1)", x.setModulus(9), 20);
        x.undo();
        Check.same("ruzsa is undoable", x.undo(), 1);
        Check.marks("undone", x, 0, 9);
        Check.same("the modulus is undone", x.setModulus(31), 31);
        Check.same("ruzsa(3, 2, 2)", x.ruzsa(3, 2, 2), 1);
        Check.marks("ruzsa(3, 2, 2)", x, 2, 1, 2);
        Check.same("ruzsa(23, 5, 2) modulo 506", x.ruzsa(23, 5, 2) > 0 ? x.setModulus(506) : 0, 506);
        Check.same("ruzsa(23, 5, 2): marks", x.size(2), 22);
        Check.yes("ruzsa(23, 5, 2): a cyclic ruler", x.isCyclicRuler(2));
        Check.index(x, "ruzsa to 4", () -> x.ruzsa(5, 2, 4));
        Check.index(x, "ruzsa to -1, all wrong", () -> x.ruzsa(4, 0, -1));
    }

    private static void primitiveRoots() {
        int[] roots = {1, 2, 2, 4, 4, 8, 6, 10};
        for (int i = 0; i < PRIMES.length; i++) {
            int p = PRIMES[i];
            int found = 0;
            for (int g = -2; g <= p + 2; g++) {
                RulerWorkbench x = new RulerWorkbench();
                try {
                    x.ruzsa(p, g, 0);
                    found++;
                    Check.same("ruzsa: marks", x.size(0), p - 1);
                    Check.yes("ruzsa: a cyclic ruler", x.isCyclicRuler(0));
                } catch (IllegalArgumentException e) {
                    Check.same("nothing is changed", x.size(0), 0);
                }
            }
            Check.same("primitive roots of " + p, found, roots[i]);
        }
        RulerWorkbench x = new RulerWorkbench();
        Check.argument(x, "g = 1", () -> x.ruzsa(3, 1, 0));
        Check.argument(x, "g = p + 2", () -> x.ruzsa(5, 7, 0));
        Check.argument(x, "g = MAX", () -> x.ruzsa(5, Integer.MAX_VALUE, 0));
        Check.argument(x, "g = MIN", () -> x.ruzsa(5, Integer.MIN_VALUE, 0));
    }

    private static void residues() {
        RulerWorkbench x = Check.with(9);
        Check.same("residues(11, 0)", x.residues(11, 0), 5);
        Check.marks("residues(11, 0)", x, 0, 1, 3, 4, 5, 9);
        Check.same("a difference set", x.index(0), 2);
        Check.same("the modulus is p", x.setModulus(9), 11);
        x.undo();
        Check.same("residues is undoable", x.undo(), 1);
        Check.marks("undone", x, 0, 9);
        Check.same("the modulus is undone", x.setModulus(31), 31);
        Check.same("residues(3, 1)", x.residues(3, 1), 1);
        Check.marks("residues(3, 1)", x, 1, 1);
        Check.same("residues(23, 1)", x.residues(23, 1), 11);
    }

    private static void wrongPrimes() {
        RulerWorkbench x = Check.with(9);
        int[] wrong = {Integer.MIN_VALUE, -3, 0, 1, 2, 4, 9, 15, 21, 22, 24, 25, 29, 31, Integer.MAX_VALUE};
        for (int p : wrong) {
            Check.argument(x, "erdosTuran of " + p, () -> x.erdosTuran(p, 0));
            Check.argument(x, "ruzsa of " + p, () -> x.ruzsa(p, 2, 0));
            Check.argument(x, "residues of " + p, () -> x.residues(p, 0));
            Check.index(x, "erdosTuran to 4", () -> x.erdosTuran(p, 4));
            Check.index(x, "residues to 4", () -> x.residues(p, 4));
        }
        Check.index(x, "erdosTuran to -1", () -> x.erdosTuran(5, -1));
        Check.index(x, "residues to -1", () -> x.residues(5, -1));
    }

    private static void extend() {
        RulerWorkbench x = new RulerWorkbench();
        Check.same("extend(0, 1)", x.extend(0, 1), 0);
        Check.marks("extend(0, 1)", x, 0, 0);
        Check.same("extend(0, 24)", x.extend(0, 24), 774);
        Check.marks("extend(0, 24)", x, 0, 0, 1, 3, 7, 12, 20, 30, 44, 65, 80, 96, 122, 147, 181, 203, 251, 289,
                360, 400, 474, 564, 592, 661, 774);
        Check.same("extend by none", x.extend(0, 24), 774);
        Check.same("extend is undoable, also if it changes nothing", x.undo(), 2);
        Check.same("undo", x.undo(), 1);
        Check.marks("undone", x, 0, 0);
        Check.put(x, 1, 10, 15);
        Check.same("extend 10 15", x.extend(1, 4), 18);
        Check.marks("extend 10 15", x, 1, 10, 15, 16, 18);
        Check.put(x, 2, 1999);
        Check.same("extend up to 2000", x.extend(2, 2), 2000);
    }

    private static void extendWrong() {
        RulerWorkbench x = Check.with(0, 2, 4);
        Check.put(x, 1, 0, 1, 3, 7);
        Check.put(x, 2, 1999);
        Check.index(x, "extend(4, 0)", () -> x.extend(4, 0));
        Check.index(x, "extend(-1, 5)", () -> x.extend(-1, 5));
        Check.argument(x, "extend(0, 0)", () -> x.extend(0, 0));
        Check.argument(x, "extend(0, 25)", () -> x.extend(0, 25));
        Check.state(x, "no ruler", () -> x.extend(0, 5));
        Check.state(x, "no ruler, but n marks", () -> x.extend(0, 3));
        Check.state(x, "more than n marks", () -> x.extend(1, 3));
        Check.same("n marks", x.extend(1, 4), 7);
        Check.state(x, "a mark of 2002", () -> x.extend(2, 3));
        Check.marks("nothing is changed", x, 2, 1999);
        Check.same("n marks already", x.extend(2, 1), 1999);
    }
}
