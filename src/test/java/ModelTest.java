import java.util.Random;

/** Runs of random calls, each answered by the workbench and by the model. */
public final class ModelTest {
    private static final int CALLS = 31;
    private static final int RUNS = 400;
    private static final int LENGTH = 300;
    private static final int[] ODD = {Integer.MIN_VALUE, -1, 0, 1, 2, 3, 4, 24, 25, 31, 1000, 1001, 2000, 2001,
        Integer.MAX_VALUE};
    private static final int[] MODULI = {2, 3, 4, 6, 7, 8, 11, 12, 13, 15, 20, 21, 24, 25, 31, 42, 48, 57, 60, 73};

    private final Random random;
    private final RulerWorkbench bench = new RulerWorkbench();
    private final Model model = new Model();
    private final int widest;

    private ModelTest(int seed) {
        random = new Random(seed);
        int[] widths = {8, 16, 40, 200, 2000};
        widest = widths[seed % widths.length];
    }

    public static void main(String[] args) {
        for (int seed = 0; seed < RUNS; seed++) {
            new ModelTest(seed).run(seed);
        }
        allSearches();
        allSmallSets();
        canonicalOfFewGaps();
        wideModuli();
        Check.end("ModelTest");
    }

    private static void allSearches() {
        RulerWorkbench x = new RulerWorkbench();
        Model y = new Model();
        for (int n = 1; n <= 7; n++) {
            Check.same("optimal", x.optimal(n, 0), y.optimal(n, 0));
            Check.same("optimal: digest", x.digest(), y.digest());
        }
        for (int n = 1; n <= 20; n++) {
            Check.same("sparse", x.sparse(n, 1), y.sparse(n, 1));
            Check.same("sparse: digest", x.digest(), y.digest());
        }
        for (int v = 3; v <= 31; v++) {
            for (int k = 2; k <= 6 && k < v; k++) {
                Check.same("first " + v + " " + k, x.firstDifferenceSet(v, k, 2), y.firstDifferenceSet(v, k, 2));
                Check.same("first " + v + " " + k + ": digest", x.digest(), y.digest());
            }
        }
    }

    private static void allSmallSets() {
        for (int m = 2; m <= 11; m++) {
            for (int bits = 1; bits < 1 << m; bits++) {
                RulerWorkbench x = new RulerWorkbench();
                Model y = new Model();
                for (int a = 0; a < m; a++) {
                    if ((bits >> a & 1) == 1) {
                        Check.same("small add", x.add(0, a), y.add(0, a));
                    }
                }
                Check.same("small modulus", x.setModulus(m), y.setModulus(m));
                Check.same("small canonical", x.canonical(0, 1), y.canonical(0, 1));
                Check.same("small digest of " + bits + " modulo " + m, x.digest(), y.digest());
            }
        }
    }

    /** Gaps that are often equal, so that the forms begin alike for long. */
    private static void canonicalOfFewGaps() {
        Random random = new Random(9);
        for (int i = 0; i < 6000; i++) {
            RulerWorkbench x = new RulerWorkbench();
            Model y = new Model();
            int marks = 2 + random.nextInt(11);
            int kinds = 2 + random.nextInt(4);
            int m = 1 + random.nextInt(3);
            for (int j = 0; j < marks; j++) {
                Check.same("few gaps: add", x.add(0, m - 1), y.add(0, m - 1));
                m += 1 + random.nextInt(kinds);
            }
            Check.same("few gaps: modulus", x.setModulus(m), y.setModulus(m));
            Check.same("few gaps: canonical", x.canonical(0, 1), y.canonical(0, 1));
            for (int j = 0; j < marks; j++) {
                Check.same("few gaps " + i + ": mark", x.mark(1, j), y.mark(1, j));
            }
        }
    }

    private static void wideModuli() {
        Random random = new Random(5);
        int[] moduli = {1000, 997, 984, 553, 506, 720};
        for (int m : moduli) {
            RulerWorkbench x = new RulerWorkbench();
            Model y = new Model();
            x.setModulus(m);
            y.setModulus(m);
            for (int i = 0; i < 24; i++) {
                int mark = random.nextInt(m);
                if (y.size(0) < 24 && multiplicityFree(y, mark)) {
                    Check.same("wide add", x.add(0, mark), y.add(0, mark));
                }
                Check.same("wide comb", x.add(1, m / 24 * i), y.add(1, m / 24 * i));
            }
            Check.same("wide digest", x.digest(), y.digest());
            Check.same("wide canonical", x.canonical(0, 2), y.canonical(0, 2));
            Check.same("wide canonical", x.canonical(1, 3), y.canonical(1, 3));
            Check.same("wide canonical: digest", x.digest(), y.digest());
        }
    }

    private static boolean multiplicityFree(Model y, int mark) {
        for (int i = 0; i < y.size(0); i++) {
            if (y.mark(0, i) == mark) {
                return false;
            }
        }
        return true;
    }

    private void run(int seed) {
        for (int i = 0; i < LENGTH; i++) {
            int call = random.nextInt(3) == 0 ? 0 : random.nextInt(CALLS);
            int[] a = {random.nextInt(4), 0, 0, random.nextInt(4)};
            choose(call, a);
            if (random.nextInt(25) == 0) {
                a[random.nextInt(4)] = ODD[random.nextInt(ODD.length)];
            }
            String got = answer(() -> onBench(call, a));
            String due = answer(() -> onModel(call, a));
            String what = "seed " + seed + ", call " + i + ", kind " + call;
            Check.same(what + " answered " + got + ", due is " + due, got.equals(due) ? 1 : 0, 1);
            if (i % 10 == 0) {
                Check.same(what + ": digest", bench.digest(), model.digest());
            }
        }
    }

    private static String answer(Check.Call call) {
        try {
            return String.valueOf(call.answer());
        } catch (RuntimeException e) {
            return e.getClass().getName();
        }
    }

    /** Arguments in their ranges or a little outside; a[0] and a[3] are sets. */
    private void choose(int call, int[] a) {
        a[1] = random.nextInt(widest + 2) - 1;
        a[2] = random.nextInt(30);
        switch (call) {
            case 1:
                a[1] = model.size(a[0]) > 0 ? model.mark(a[0], random.nextInt(model.size(a[0]))) : 1;
                break;
            case 6: case 25: case 26:
                a[1] = random.nextInt(27) - 1;
                break;
            case 12:
                a[1] = random.nextInt(18) - 1;
                break;
            case 13:
                a[1] = MODULI[random.nextInt(MODULI.length)];
                break;
            case 27:
                a[1] = random.nextInt(23) - 1;
                break;
            case 22: case 23: case 24:
                a[1] = random.nextInt(26);
                a[2] = random.nextInt(26);
                break;
            case 28:
                a[1] = random.nextInt(34);
                a[2] = random.nextInt(8);
                break;
            default:
                break;
        }
    }

    private long onBench(int call, int[] a) {
        switch (call) {
            case 0: return bench.add(a[0], a[1]);
            case 1: return bench.remove(a[0], a[1]);
            case 2: return bench.clear(a[0]);
            case 3: return bench.copy(a[0], a[3]);
            case 4: return bench.size(a[0]);
            case 5: return bench.length(a[0]);
            case 6: return bench.mark(a[0], a[1]);
            case 7: return bench.multiplicity(a[0], a[1]);
            case 8: return bench.isRuler(a[0]) ? 1 : 0;
            case 9: return bench.completeUpTo(a[0]);
            case 10: return bench.differences(a[0]);
            case 11: return bench.digest();
            case 12: return bench.isFamily(a[1]) ? 1 : 0;
            case 13: return bench.setModulus(a[1]);
            case 14: return bench.cyclicMultiplicity(a[0], a[1]);
            case 15: return bench.isCyclicRuler(a[0]) ? 1 : 0;
            case 16: return bench.index(a[0]);
            case 17: return bench.map(a[0], a[1], a[2], a[3]);
            case 18: return bench.complement(a[0], a[3]);
            case 19: return bench.reflect(a[0], a[3]);
            case 20: return bench.multipliers(a[0]);
            case 21: return bench.canonical(a[0], a[3]);
            case 22: return bench.erdosTuran(a[1], a[3]);
            case 23: return bench.ruzsa(a[1], a[2], a[3]);
            case 24: return bench.residues(a[1], a[3]);
            case 25: return bench.extend(a[0], a[1]);
            case 26: return bench.optimal(a[1], a[3]);
            case 27: return bench.sparse(a[1], a[3]);
            case 28: return bench.firstDifferenceSet(a[1], a[2], a[3]);
            default: return bench.undo();
        }
    }

    private long onModel(int call, int[] a) {
        switch (call) {
            case 0: return model.add(a[0], a[1]);
            case 1: return model.remove(a[0], a[1]);
            case 2: return model.clear(a[0]);
            case 3: return model.copy(a[0], a[3]);
            case 4: return model.size(a[0]);
            case 5: return model.length(a[0]);
            case 6: return model.mark(a[0], a[1]);
            case 7: return model.multiplicity(a[0], a[1]);
            case 8: return model.isRuler(a[0]) ? 1 : 0;
            case 9: return model.completeUpTo(a[0]);
            case 10: return model.differences(a[0]);
            case 11: return model.digest();
            case 12: return model.isFamily(a[1]) ? 1 : 0;
            case 13: return model.setModulus(a[1]);
            case 14: return model.cyclicMultiplicity(a[0], a[1]);
            case 15: return model.isCyclicRuler(a[0]) ? 1 : 0;
            case 16: return model.index(a[0]);
            case 17: return model.map(a[0], a[1], a[2], a[3]);
            case 18: return model.complement(a[0], a[3]);
            case 19: return model.reflect(a[0], a[3]);
            case 20: return model.multipliers(a[0]);
            case 21: return model.canonical(a[0], a[3]);
            case 22: return model.erdosTuran(a[1], a[3]);
            case 23: return model.ruzsa(a[1], a[2], a[3]);
            case 24: return model.residues(a[1], a[3]);
            case 25: return model.extend(a[0], a[1]);
            case 26: return model.optimal(a[1], a[3]);
            case 27: return model.sparse(a[1], a[3]);
            case 28: return model.firstDifferenceSet(a[1], a[2], a[3]);
            default: return model.undo();
        }
    }
}
