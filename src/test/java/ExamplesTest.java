/** The five examples of the document's description. */
public final class ExamplesTest {
    public static void main(String[] args) {
        perfectRuler();
        optimalAndSparse();
        firstDifferenceSets();
        exceptions();
        noRuler();
        Check.end("ExamplesTest");
    }

    private static void perfectRuler() {
        RulerWorkbench x = new RulerWorkbench();
        Check.same("1: add", x.add(0, 0), 0);
        Check.same("1: add", x.add(0, 1), 1);
        Check.same("1: add", x.add(0, 4), 2);
        Check.same("1: add", x.add(0, 6), 3);
        Check.yes("1: isRuler", x.isRuler(0));
        Check.same("1: completeUpTo", x.completeUpTo(0), 6);
        Check.same("1: setModulus", x.setModulus(13), 31);
        Check.same("1: index", x.index(0), 1);
        Check.same("1: multipliers", x.multipliers(0), 3);
        Check.same("1: complement", x.complement(0, 1), 9);
        Check.same("1: index", x.index(1), 6);
    }

    private static void optimalAndSparse() {
        RulerWorkbench x = new RulerWorkbench();
        Check.same("2: optimal", x.optimal(5, 0), 11);
        Check.same("2: mark", x.mark(0, 1), 1);
        Check.same("2: mark", x.mark(0, 4), 11);
        Check.yes("2: isRuler", x.isRuler(0));
        Check.same("2: sparse", x.sparse(6, 1), 4);
        Check.same("2: size", x.size(1), 4);
        Check.same("2: completeUpTo", x.completeUpTo(1), 6);
    }

    private static void firstDifferenceSets() {
        RulerWorkbench x = new RulerWorkbench();
        Check.same("3: firstDifferenceSet", x.firstDifferenceSet(7, 3, 0), 1);
        Check.same("3: mark", x.mark(0, 1), 1);
        Check.same("3: mark", x.mark(0, 2), 3);
        Check.same("3: firstDifferenceSet", x.firstDifferenceSet(10, 4, 1), -1);
        Check.same("3: size", x.size(1), 0);
        Check.same("3: index", x.index(0), 1);
        Check.same("3: canonical", x.canonical(0, 2), 3);
    }

    private static void exceptions() {
        RulerWorkbench x = new RulerWorkbench();
        Check.same("4: add", x.add(0, 3), 0);
        Check.state(x, "4: add", () -> x.add(0, 3));
        Check.index(x, "4: add", () -> x.add(4, 0));
        Check.same("4: extend", x.extend(1, 5), 12);
        Check.same("4: mark", x.mark(1, 4), 12);
        Check.argument(x, "4: ruzsa", () -> x.ruzsa(7, 2, 0));
        Check.same("4: undo", x.undo(), 1);
    }

    private static void noRuler() {
        RulerWorkbench x = new RulerWorkbench();
        Check.same("5: add", x.add(0, 0), 0);
        Check.same("5: add", x.add(0, 2), 1);
        Check.same("5: add", x.add(0, 4), 2);
        Check.no("5: isRuler", x.isRuler(0));
        Check.same("5: multiplicity", x.multiplicity(0, 2), 2);
        Check.same("5: differences", x.differences(0), 2);
        Check.no("5: isFamily", x.isFamily(1));
        Check.state(x, "5: extend", () -> x.extend(0, 5));
        Check.same("5: remove", x.remove(0, 4), 2);
        Check.state(x, "5: remove", () -> x.remove(0, 4));
    }
}
