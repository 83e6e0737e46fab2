/** The five examples of the document's description, in its own words, call by call. */
public final class ExamplesTest {
    private static final String[] EXAMPLES = {
        "add(0, 0) = 0; add(0, 1) = 1; add(0, 4) = 2; add(0, 6) = 3; isRuler(0) = true; completeUpTo(0) = 6; "
            + "setModulus(13) = 31; index(0) = 1; multipliers(0) = 3; complement(0, 1) = 9; index(1) = 6",
        "optimal(5, 0) = 11; mark(0, 1) = 1; mark(0, 4) = 11; isRuler(0) = true; sparse(6, 1) = 4; size(1) = 4; "
            + "completeUpTo(1) = 6",
        "firstDifferenceSet(7, 3, 0) = 1; mark(0, 1) = 1; mark(0, 2) = 3; firstDifferenceSet(10, 4, 1) = -1; "
            + "size(1) = 0; index(0) = 1; canonical(0, 2) = 3",
        "add(0, 3) = 0; add(0, 3) = throws IllegalStateException; add(4, 0) = throws IndexOutOfBoundsException; "
            + "extend(1, 5) = 12; mark(1, 4) = 12; ruzsa(7, 2, 0) = throws IllegalArgumentException; undo() = 1",
        "add(0, 0) = 0; add(0, 2) = 1; add(0, 4) = 2; isRuler(0) = false; multiplicity(0, 2) = 2; "
            + "differences(0) = 2; isFamily(1) = false; extend(0, 5) = throws IllegalStateException; "
            + "remove(0, 4) = 2; remove(0, 4) = throws IllegalStateException"};
    private static final int CALLS = 42;

    public static void main(String[] args) {
        int calls = 0;
        for (int i = 0; i < EXAMPLES.length; i++) {
            RulerWorkbench x = new RulerWorkbench();
            for (String row : EXAMPLES[i].split("; ")) {
                String[] parts = row.split(" = ");
                Check.text("example " + (i + 1) + ": " + parts[0], Script.answer(x, parts[0]), parts[1]);
                calls++;
            }
        }
        Check.same("the examples' calls", calls, CALLS);
        Check.end("ExamplesTest");
    }
}
