import java.util.TreeSet;

/** The boundaries that promises 23 to 26 and 'CONSTRUCTIONS' name; each case begins with its sentence. */
public final class ConstructionsEdgesTest {
    private static final int[] PRIMES = {3, 5, 7, 11, 13, 17, 19, 23};
    private static final int[] MIAN_CHOWLA = {0, 1, 3, 7, 12, 20, 30, 44, 65, 80, 96, 122, 147, 181, 203, 251, 289, 360,
        400, 474, 564, 592, 661, 774};

    public static void main(String[] args) {
        primes();
        erdosTuran();
        roots();
        rootsRefused();
        ruzsa();
        residues();
        extendRange();
        extendFrom();
        extendToTheTop();
        extendRefused();
        extendOrder();
        Check.end("ConstructionsEdgesTest");
    }

    /** 'p is out of range or not a prime': all p around the range, the primes outside it, the least and greatest int. */
    private static void primes() {
        TreeSet<Integer> right = new TreeSet<>();
        for (int p : PRIMES) {
            right.add(p);
        }
        TreeSet<Integer> tried = new TreeSet<>();
        for (int p = -24; p <= 60; p++) {
            tried.add(p);
        }
        for (int p : new int[] {Integer.MIN_VALUE, Integer.MIN_VALUE + 3, 997, 1009, 65537, Integer.MAX_VALUE}) {
            tried.add(p);
        }
        for (int p : tried) {
            prime("erdosTuran", right.contains(p), p, (x, q) -> x.erdosTuran(q, 1));
            prime("ruzsa", right.contains(p), p, (x, q) -> x.ruzsa(q, rootOf(q), 1));
            prime("residues", right.contains(p), p, (x, q) -> x.residues(q, 1));
        }
    }

    private static int rootOf(int p) {
        return p == 7 || p == 17 ? 3 : p == 23 ? 5 : 2;
    }

    private static void prime(String name, boolean right, int p, Scene.Open call) {
        String sentence = "'p is out of range or not a prime': " + name;
        if (right) {
            Scene.busy().takes(sentence, p, call);
        } else {
            Scene.busy().refuses(sentence + " of " + p, Scene.ARGUMENT, x -> call.on(x, p));
        }
    }

    private static void erdosTuran() {
        String sentence = "'2 * p * k + (k * k modulo p), for k from 0 to p - 1': ";
        Scene.fresh().makes(sentence + "3", 13, x -> x.erdosTuran(3, 0), 0, 0, 7, 13);
        Scene.busy().makes(sentence + "3", 13, x -> x.erdosTuran(3, 0), 0, 0, 7, 13);
        int[] greatest = new int[23];
        for (int k = 0; k < 23; k++) {
            greatest[k] = 46 * k + k * k % 23;
        }
        Scene.busy().makes(sentence + "23", 1013, x -> x.erdosTuran(23, 3), 3, greatest);
        Scene full = Scene.with(Scene.steps(24, 0, 1));
        full.makes("24 marks are replaced", 13, x -> x.erdosTuran(3, 0), 0, 0, 7, 13);
        Scene.busy().leavesModulus("the modulus stays", 13, x -> x.erdosTuran(23, 0));
    }

    private static boolean isRoot(int g, int p) {
        TreeSet<Integer> powers = new TreeSet<>();
        int power = 1;
        for (int k = 1; k <= p - 1; k++) {
            power = power * g % p;
            powers.add(power);
        }
        return powers.size() == p - 1;
    }

    /** 'a number from 2 to p - 1 whose powers are all different modulo p' */
    private static void roots() {
        String sentence = "'g is not a primitive root of p': ";
        for (int p : PRIMES) {
            for (int g = 2 - p; g <= 2 * p + 2; g++) {
                int root = g;
                if (g >= 2 && g <= p - 1 && isRoot(g, p)) {
                    Scene.busy().takes(sentence + p, g, (x, any) -> x.ruzsa(p, any, 1));
                } else {
                    Scene.busy().refuses(sentence + p + ", " + g, Scene.ARGUMENT, x -> x.ruzsa(p, root, 1));
                }
            }
        }
    }

    private static void rootsRefused() {
        Scene.busy().range("'from 2 to p - 1', p is 3", Scene.ARGUMENT, 2, 2, (x, g) -> x.ruzsa(3, g, 0));
        Scene.busy().range("'from 2 to p - 1', p is 5", Scene.ARGUMENT, 2, 3, (x, g) -> x.ruzsa(5, g, 0));
        for (int p : PRIMES) {
            for (int g : new int[] {Integer.MIN_VALUE, -1, 0, 1, p, p + rootOf(p), rootOf(p) - p, Integer.MAX_VALUE}) {
                Scene.busy().refuses("no root of " + p + ": " + g, Scene.ARGUMENT, x -> x.ruzsa(p, g, 0));
            }
        }
        Scene.busy().refuses("a root only modulo p", Scene.ARGUMENT, x -> x.ruzsa(5, 1_000_000_003, 0));
        Scene.busy().refuses("both are wrong", Scene.ARGUMENT, x -> x.ruzsa(9, 1, 0));
    }

    private static void ruzsa() {
        String sentence = "'(p * k + (p - 1) * (g^k modulo p)) modulo (p * (p - 1)), for k from 1 to p - 1': ";
        Scene.fresh().makes(sentence + "3", 1, x -> x.ruzsa(3, 2, 0), 0, 1, 2);
        Scene.busy().makes(sentence + "5", 9, x -> x.ruzsa(5, 2, 3), 3, 4, 6, 7, 13);
        for (int g : new int[] {5, 21}) {
            TreeSet<Integer> due = new TreeSet<>();
            int power = 1;
            for (int k = 1; k <= 22; k++) {
                power = power * g % 23;
                due.add((23 * k + 22 * power) % 506);
            }
            int[] marks = due.stream().mapToInt(a -> a).toArray();
            Scene.busy().makes(sentence + "23", due.last() - due.first(), x -> x.ruzsa(23, g, 2), 2, marks);
        }
        String modulus = "'sets the modulus to p * (p - 1)'";
        for (int p : PRIMES) {
            Scene.busy().leavesModulus(modulus, p * (p - 1), x -> x.ruzsa(p, rootOf(p), 0));
        }
        Scene.busy().leavesModulus("a refused call leaves the modulus", 13, x -> x.ruzsa(23, 2, 0));
    }

    private static void residues() {
        String sentence = "'the numbers (k * k) modulo p, for k from 1 to p - 1': ";
        Scene.fresh().makes(sentence + "3", 1, x -> x.residues(3, 0), 0, 1);
        Scene.busy().makes(sentence + "5", 2, x -> x.residues(5, 0), 0, 1, 4);
        Scene.busy().makes(sentence + "23", 11, x -> x.residues(23, 3), 3, 1, 2, 3, 4, 6, 8, 9, 12, 13, 16, 18);
        String modulus = "'sets the modulus to the prime'";
        for (int p : PRIMES) {
            Scene.busy().leavesModulus(modulus, p, x -> x.residues(p, 0));
            Scene.busy().saves("'Returns the number of marks': residues", (p - 1) / 2, x -> x.residues(p, 0));
        }
        Scene.busy().leavesModulus("a refused call leaves the modulus", 13, x -> x.residues(22, 0));
    }

    private static void extendRange() {
        String sentence = "'n: 1 to 24': extend";
        Scene.busy().range(sentence, Scene.ARGUMENT, 1, 24, (x, n) -> x.extend(3, n));
        Scene.fresh().range(sentence, Scene.ARGUMENT, 1, 24, (x, n) -> x.extend(0, n));
        Scene.busy().range(sentence, Scene.ARGUMENT, 1, 24, (x, n) -> x.extend(2, n));
    }

    private static int[] first(int n, int from) {
        int[] marks = new int[n];
        for (int i = 0; i < n; i++) {
            marks[i] = MIAN_CHOWLA[i] + from;
        }
        return marks;
    }

    private static void extendFrom() {
        String empty = "'an empty set begins with the mark 0': ";
        Scene.fresh().makes(empty + "1", 0, x -> x.extend(0, 1), 0, 0);
        Scene.busy().makes(empty + "2", 1, x -> x.extend(3, 2), 3, 0, 1);
        Scene.busy().makes(empty + "24", 774, x -> x.extend(3, 24), 3, MIAN_CHOWLA);
        String sentence = "'until it has n marks': ";
        Scene.with(0).savesUnchanged(sentence + "it has", 0, x -> x.extend(0, 1));
        Scene.with(2000).savesUnchanged(sentence + "it has", 2000, x -> x.extend(0, 1));
        Scene.busy().savesUnchanged(sentence + "it has", 6, x -> x.extend(0, 4));
        Scene.busy().makes(sentence + "one more", 13, x -> x.extend(0, 5), 0, 0, 1, 4, 6, 13);
        Scene full = new Scene(x -> x.extend(1, 24));
        full.savesUnchanged(sentence + "it has 24", 774, x -> x.extend(1, 24));
        Scene.with(first(23, 0)).makes(sentence + "the 24th", 774, x -> x.extend(0, 24), 0, MIAN_CHOWLA);
        String least = "'the least number greater than the greatest mark': ";
        Scene.with(5).makes(least + "5", 6, x -> x.extend(0, 2), 0, 5, 6);
        Scene.with(0, 10).makes(least + "none between", 11, x -> x.extend(0, 3), 0, 0, 10, 11);
        Scene.with(0, 1).makes(least + "2 would give 1 twice", 3, x -> x.extend(0, 3), 0, 0, 1, 3);
        Scene.modulo(2, 9).makes("the modulus has no part in it", 12, x -> x.extend(0, 3), 0, 9, 10, 12);
    }

    private static void extendToTheTop() {
        String sentence = "'or a mark would be greater than 2000': ";
        Scene.with(1999).makes(sentence + "2000", 2000, x -> x.extend(0, 2), 0, 1999, 2000);
        Scene.with(1999).refuses(sentence + "2002", Scene.STATE, x -> x.extend(0, 3));
        Scene.with(2000).refuses(sentence + "2001", Scene.STATE, x -> x.extend(0, 2));
        Scene.with(2000).refuses(sentence + "2001", Scene.STATE, x -> x.extend(0, 24));
        Scene.with(0, 2000).refuses(sentence + "2001", Scene.STATE, x -> x.extend(0, 3));
        Scene.with(0, 2000).savesUnchanged(sentence + "none is added", 2000, x -> x.extend(0, 2));
        Scene.with(0, 1999).makes(sentence + "2000", 2000, x -> x.extend(0, 3), 0, 0, 1999, 2000);
        Scene.with(0, 1, 1999).refuses(sentence + "2000 gives 1 twice", Scene.STATE, x -> x.extend(0, 4));
        Scene.with(1226).makes(sentence + "the 24th is 2000", 2000, x -> x.extend(0, 24), 0, first(24, 1226));
        Scene.with(1227).refuses(sentence + "the 24th is 2001", Scene.STATE, x -> x.extend(0, 24));
        Scene.with(1227).makes(sentence + "23 are fine", 1888, x -> x.extend(0, 23), 0, first(23, 1227));
    }

    private static void extendRefused() {
        String ruler = "'if the set is not a ruler': ";
        Scene.busy().refuses(ruler + "3 of 3", Scene.STATE, x -> x.extend(1, 3));
        Scene.busy().refuses(ruler + "3 of 2", Scene.STATE, x -> x.extend(1, 2));
        Scene.busy().refuses(ruler + "3 of 24", Scene.STATE, x -> x.extend(1, 24));
        Scene.with(Scene.steps(24, 0, 1)).refuses(ruler + "24 of 24", Scene.STATE, x -> x.extend(0, 24));
        String more = "'has more than n marks': ";
        Scene.busy().refuses(more + "4 of 3", Scene.STATE, x -> x.extend(0, 3));
        Scene.busy().refuses(more + "4 of 1", Scene.STATE, x -> x.extend(0, 1));
        Scene.with(0, 1).refuses(more + "2 of 1", Scene.STATE, x -> x.extend(0, 1));
        new Scene(x -> x.extend(0, 24)).refuses(more + "24 of 23", Scene.STATE, x -> x.extend(0, 23));
    }

    private static void extendOrder() {
        String sentence = "'the one that is listed first': ";
        for (int wrong : new int[] {0, 25, -1, Integer.MIN_VALUE, Integer.MAX_VALUE}) {
            Scene.busy().refuses(sentence + "no ruler, n is " + wrong, Scene.ARGUMENT, x -> x.extend(1, wrong));
            Scene.busy().refuses(sentence + "4 marks, n is " + wrong, Scene.ARGUMENT, x -> x.extend(0, wrong));
            Scene.with(2000).refuses(sentence + "at 2000, n is " + wrong, Scene.ARGUMENT, x -> x.extend(0, wrong));
        }
    }
}
