/** Promises 27 to 29: optimal, sparse, firstDifferenceSet. */
public final class SearchesTest {
    private static final int[][] OPTIMAL = {
        {0}, {0, 1}, {0, 1, 3}, {0, 1, 4, 6}, {0, 1, 4, 9, 11}, {0, 1, 4, 10, 12, 17}, {0, 1, 4, 10, 18, 23, 25}};
    private static final int[] SPARSE_MARKS = {2, 3, 3, 4, 4, 4, 5, 5, 5, 6, 6, 6, 6, 7, 7, 7, 7, 8, 8, 8};

    public static void main(String[] args) {
        optimal();
        sparse();
        firstDifferenceSet();
        noDifferenceSet();
        wrongDifferenceSet();
        Check.end("SearchesTest");
    }

    private static void optimal() {
        RulerWorkbench x = Check.with(9);
        for (int n = 1; n <= 7; n++) {
            int[] due = OPTIMAL[n - 1];
            Check.same("optimal", x.optimal(n, 0), due[n - 1]);
            Check.marks("optimal of " + n, x, 0, due);
        }
        Check.same("optimal is undoable", x.undo(), 3);
        Check.marks("undone", x, 0, OPTIMAL[5]);
        Check.index(x, "optimal(3, 4)", () -> x.optimal(3, 4));
        Check.index(x, "optimal(0, -1)", () -> x.optimal(0, -1));
        Check.argument(x, "optimal(0, 0)", () -> x.optimal(0, 0));
        Check.argument(x, "optimal(8, 0)", () -> x.optimal(8, 0));
        Check.argument(x, "optimal(-1, 0)", () -> x.optimal(-1, 0));
        Check.same("the modulus stays", x.setModulus(31), 31);
    }

    private static void sparse() {
        RulerWorkbench x = Check.with(9);
        for (int n = 1; n <= 20; n++) {
            Check.same("sparse " + n, x.sparse(n, 2), SPARSE_MARKS[n - 1]);
            Check.same("sparse: size", x.size(2), SPARSE_MARKS[n - 1]);
            Check.same("sparse: least mark", x.mark(2, 0), 0);
            Check.same("sparse: length", x.length(2), n);
            Check.same("sparse: complete", x.completeUpTo(2), n);
        }
        x.sparse(4, 0);
        Check.marks("sparse 4", x, 0, 0, 1, 2, 4);
        x.sparse(9, 0);
        Check.marks("sparse 9", x, 0, 0, 1, 2, 6, 9);
        x.sparse(13, 0);
        Check.marks("sparse 13", x, 0, 0, 1, 2, 6, 10, 13);
        Check.same("sparse is undoable", x.undo(), 3);
        Check.marks("undone", x, 0, 0, 1, 2, 6, 9);
        Check.index(x, "sparse(3, 4)", () -> x.sparse(3, 4));
        Check.index(x, "sparse(0, -1)", () -> x.sparse(0, -1));
        Check.argument(x, "sparse(0, 0)", () -> x.sparse(0, 0));
        Check.argument(x, "sparse(21, 0)", () -> x.sparse(21, 0));
        Check.argument(x, "sparse(-1, 0)", () -> x.sparse(-1, 0));
        Check.same("the modulus stays", x.setModulus(31), 31);
    }

    private static void firstDifferenceSet() {
        RulerWorkbench x = Check.with(9);
        Check.same("(31, 6)", x.firstDifferenceSet(31, 6, 0), 1);
        Check.marks("(31, 6)", x, 0, 0, 1, 3, 8, 12, 18);
        Check.same("(21, 5)", x.firstDifferenceSet(21, 5, 0), 1);
        Check.marks("(21, 5)", x, 0, 0, 1, 4, 14, 16);
        Check.same("(21, 5) has the index 1", x.index(0), 1);
        Check.same("firstDifferenceSet is undoable", x.undo(), 2);
        Check.marks("undone", x, 0, 0, 1, 3, 8, 12, 18);
        Check.same("the modulus is undone", x.setModulus(31), 31);
        Check.same("(13, 4)", x.firstDifferenceSet(13, 4, 1), 1);
        Check.marks("(13, 4)", x, 1, 0, 1, 3, 9);
        Check.same("the modulus is v", x.setModulus(9), 13);
        Check.same("(11, 5)", x.firstDifferenceSet(11, 5, 1), 2);
        Check.marks("(11, 5)", x, 1, 0, 1, 2, 4, 7);
        Check.same("(11, 6)", x.firstDifferenceSet(11, 6, 1), 3);
        Check.same("(7, 6)", x.firstDifferenceSet(7, 6, 1), 5);
        Check.marks("(7, 6)", x, 1, 0, 1, 2, 3, 4, 5);
        Check.same("(3, 2)", x.firstDifferenceSet(3, 2, 1), 1);
        Check.marks("(3, 2)", x, 1, 0, 1);
    }

    private static void noDifferenceSet() {
        RulerWorkbench x = Check.with(9);
        long before = x.digest();
        Check.same("(16, 6)", x.firstDifferenceSet(16, 6, 0), RulerWorkbench.NONE);
        Check.same("(10, 4)", x.firstDifferenceSet(10, 4, 0), RulerWorkbench.NONE);
        Check.same("(4, 2)", x.firstDifferenceSet(4, 2, 0), RulerWorkbench.NONE);
        Check.same("(31, 5)", x.firstDifferenceSet(31, 5, 3), RulerWorkbench.NONE);
        Check.same("nothing is changed or saved", x.digest(), before);
        Check.same("one state is saved", x.undo(), 0);
    }

    private static void wrongDifferenceSet() {
        RulerWorkbench x = Check.with(9);
        Check.index(x, "to 4", () -> x.firstDifferenceSet(7, 3, 4));
        Check.index(x, "to -1, all wrong", () -> x.firstDifferenceSet(2, 9, -1));
        Check.index(x, "to 4 and no such set", () -> x.firstDifferenceSet(10, 4, 4));
        Check.argument(x, "v = 2", () -> x.firstDifferenceSet(2, 2, 0));
        Check.argument(x, "v = 32", () -> x.firstDifferenceSet(32, 2, 0));
        Check.argument(x, "v = 1", () -> x.firstDifferenceSet(1, 0, 0));
        Check.argument(x, "k = 1", () -> x.firstDifferenceSet(7, 1, 0));
        Check.argument(x, "k = 7", () -> x.firstDifferenceSet(31, 7, 0));
        Check.argument(x, "k = v", () -> x.firstDifferenceSet(3, 3, 0));
        Check.argument(x, "k > v", () -> x.firstDifferenceSet(5, 6, 0));
    }
}
