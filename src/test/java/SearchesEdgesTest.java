/** The boundaries that promises 27 to 29 and 'SEARCHES' name; each case begins with the sentence that it is about. */
public final class SearchesEdgesTest {
    private static final int NONE = RulerWorkbench.NONE;

    public static void main(String[] args) {
        optimal();
        sparse();
        firstDifferenceSetRanges();
        almostAll();
        firstDifferenceSet();
        noDifferenceSet();
        replaced();
        Check.end("SearchesEdgesTest");
    }

    private static void optimal() {
        String range = "'n: 1 to 7': optimal";
        Scene.busy().range(range, Scene.ARGUMENT, 1, 7, (x, n) -> x.optimal(n, 0));
        Scene.fresh().range(range, Scene.ARGUMENT, 1, 7, (x, n) -> x.optimal(n, 0));
        String sentence = "'the one with the least length, and of several the lexicographically first one': ";
        Scene.fresh().makes(sentence + "1", 0, x -> x.optimal(1, 0), 0, 0);
        Scene.busy().makes(sentence + "1", 0, x -> x.optimal(1, 3), 3, 0);
        Scene.busy().makes(sentence + "2", 1, x -> x.optimal(2, 0), 0, 0, 1);
        Scene.busy().makes(sentence + "3, not 0 2 3", 3, x -> x.optimal(3, 0), 0, 0, 1, 3);
        Scene.busy().makes(sentence + "4, not 0 2 5 6", 6, x -> x.optimal(4, 0), 0, 0, 1, 4, 6);
        Scene.busy().makes(sentence + "5, not 0 2 7 8 11", 11, x -> x.optimal(5, 0), 0, 0, 1, 4, 9, 11);
        Scene.busy().makes(sentence + "6", 17, x -> x.optimal(6, 0), 0, 0, 1, 4, 10, 12, 17);
        Scene.busy().makes(sentence + "7", 25, x -> x.optimal(7, 0), 0, 0, 1, 4, 10, 18, 23, 25);
        Scene.busy().leavesModulus("the modulus stays", 13, x -> x.optimal(7, 0));
    }

    private static void sparse() {
        String range = "'n: 1 to 20': sparse";
        Scene.busy().range(range, Scene.ARGUMENT, 1, 20, (x, n) -> x.sparse(n, 0));
        Scene.fresh().range(range, Scene.ARGUMENT, 1, 20, (x, n) -> x.sparse(n, 0));
        String sentence = "'the one with the fewest marks, and of several the lexicographically first one': ";
        Scene.fresh().makes(sentence + "1", 2, x -> x.sparse(1, 0), 0, 0, 1);
        Scene.busy().makes(sentence + "2", 3, x -> x.sparse(2, 3), 3, 0, 1, 2);
        Scene.busy().makes(sentence + "3, not 0 2 3", 3, x -> x.sparse(3, 0), 0, 0, 1, 3);
        Scene.busy().makes(sentence + "4", 4, x -> x.sparse(4, 0), 0, 0, 1, 2, 4);
        Scene.busy().makes(sentence + "6", 4, x -> x.sparse(6, 0), 0, 0, 1, 4, 6);
        Scene.busy().makes(sentence + "9", 5, x -> x.sparse(9, 0), 0, 0, 1, 2, 6, 9);
        for (int n = 1; n <= 20; n++) {
            int length = n;
            int[] due = firstSparse(n);
            Scene.busy().makes(sentence + n, due.length, x -> x.sparse(length, 0), 0, due);
        }
        Scene.busy().leavesModulus("the modulus stays", 13, x -> x.sparse(20, 0));
    }

    /** Looks at all sets of two marks, of three and so on, each time in lexicographic order. */
    private static int[] firstSparse(int n) {
        for (int count = 2; count <= n + 1; count++) {
            // Bit i is the mark n - i, so that the greater number is the set that comes first.
            for (int marks = (1 << n + 1) - 1; marks >> n == 1; marks -= 2) {
                if (Integer.bitCount(marks) == count && isComplete(marks, n)) {
                    return marksOf(marks, n, count);
                }
            }
        }
        return new int[0];
    }

    private static int[] marksOf(int bits, int n, int count) {
        int[] marks = new int[count];
        int found = 0;
        for (int a = 0; a <= n; a++) {
            if ((bits >> n - a & 1) == 1) {
                marks[found] = a;
                found++;
            }
        }
        return marks;
    }

    private static boolean isComplete(int marks, int n) {
        for (int d = 1; d <= n; d++) {
            if ((marks & marks >> d) == 0) {
                return false;
            }
        }
        return true;
    }

    private static void firstDifferenceSetRanges() {
        String v = "'v: 3 to 31': firstDifferenceSet";
        Scene.busy().range(v, Scene.ARGUMENT, 3, 31, (x, order) -> x.firstDifferenceSet(order, 2, 0));
        Scene.fresh().range(v, Scene.ARGUMENT, 3, 31, (x, order) -> x.firstDifferenceSet(order, 2, 0));
        Scene.busy().refuses(v + ", 32 and 6", Scene.ARGUMENT, x -> x.firstDifferenceSet(32, 6, 0));
        Scene.busy().refuses(v + ", 57 and 6", Scene.ARGUMENT, x -> x.firstDifferenceSet(57, 6, 0));
        String k = "'k: 2 to 6': firstDifferenceSet";
        Scene.busy().range(k, Scene.ARGUMENT, 2, 6, (x, marks) -> x.firstDifferenceSet(31, marks, 0));
        Scene.busy().range(k, Scene.ARGUMENT, 2, 6, (x, marks) -> x.firstDifferenceSet(7, marks, 0));
        Scene.fresh().range(k, Scene.ARGUMENT, 2, 6, (x, marks) -> x.firstDifferenceSet(15, marks, 0));
        String less = "'less than v': firstDifferenceSet";
        for (int order = 3; order <= 6; order++) {
            int here = order;
            Scene.busy().range(less, Scene.ARGUMENT, 2, order - 1, (x, marks) -> x.firstDifferenceSet(here, marks, 0));
            Scene.busy().refuses(less + ", 6", Scene.ARGUMENT, x -> x.firstDifferenceSet(here, 6, 0));
        }
        for (int wrong : new int[] {-1, 0, 1, 2, 32, Integer.MIN_VALUE, Integer.MAX_VALUE}) {
            Scene.busy().refuses("both are wrong", Scene.ARGUMENT, x -> x.firstDifferenceSet(wrong, wrong, 0));
            Scene.busy().refuses("both are wrong", Scene.ARGUMENT, x -> x.firstDifferenceSet(wrong, wrong - 1, 0));
        }
    }

    /** The greatest k for a v: all numbers but one. */
    private static void almostAll() {
        for (int v = 3; v <= 7; v++) {
            int order = v;
            String sentence = "'less than v': k = v - 1 for " + v;
            Scene.busy().makes(sentence, v - 2, x -> x.firstDifferenceSet(order, order - 1, 0), 0,
                    Scene.steps(v - 1, 0, 1));
            Scene.busy().leavesModulus(sentence, v, x -> x.firstDifferenceSet(order, order - 1, 0));
        }
    }

    private static void firstDifferenceSet() {
        String sentence = "'the lexicographically first set of k marks from 0 to v - 1, with the least mark 0': ";
        Scene.fresh().makes(sentence + "(3, 2)", 1, x -> x.firstDifferenceSet(3, 2, 0), 0, 0, 1);
        Scene.busy().makes(sentence + "(7, 3)", 1, x -> x.firstDifferenceSet(7, 3, 3), 3, 0, 1, 3);
        Scene.busy().makes(sentence + "(7, 4)", 2, x -> x.firstDifferenceSet(7, 4, 3), 3, 0, 1, 2, 4);
        Scene.busy().makes(sentence + "(11, 6)", 3, x -> x.firstDifferenceSet(11, 6, 3), 3, 0, 1, 2, 4, 5, 7);
        Scene.busy().makes(sentence + "(31, 6)", 1, x -> x.firstDifferenceSet(31, 6, 3), 3, 0, 1, 3, 8, 12, 18);
        String modulus = "'sets the modulus to v'";
        Scene.busy().leavesModulus(modulus, 3, x -> x.firstDifferenceSet(3, 2, 0));
        Scene.busy().leavesModulus(modulus, 31, x -> x.firstDifferenceSet(31, 6, 0));
    }

    private static void noDifferenceSet() {
        String sentence = "'NONE if there is no such set (then nothing is changed, and nothing is saved)': ";
        int[][] none = {{4, 2}, {5, 2}, {31, 2}, {31, 3}, {31, 4}, {31, 5}, {30, 6}, {8, 3}, {10, 4}, {16, 6}, {12, 6}};
        for (int[] pair : none) {
            String what = sentence + pair[0] + ", " + pair[1];
            Scene.busy().tells(what, NONE, x -> x.firstDifferenceSet(pair[0], pair[1], 0));
            Scene.fresh().tells(what, NONE, x -> x.firstDifferenceSet(pair[0], pair[1], 3));
        }
    }

    private static void replaced() {
        String sentence = "'Replaces a set', of 24 marks: ";
        Scene full = Scene.with(Scene.steps(24, 1977, 1));
        full.makes(sentence + "optimal", 0, x -> x.optimal(1, 0), 0, 0);
        full.makes(sentence + "sparse", 2, x -> x.sparse(1, 0), 0, 0, 1);
        full.makes(sentence + "firstDifferenceSet", 1, x -> x.firstDifferenceSet(3, 2, 0), 0, 0, 1);
    }
}
