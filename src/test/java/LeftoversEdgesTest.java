/**
 * 'A call that throws an exception changes nothing', and a call that is undone or only asks leaves nothing behind either:
 * each call answers and does the same behind each other one as it does alone.
 */
public final class LeftoversEdgesTest {
    /** Two rulers below the modulus, a set that is none, an empty one. */
    private static final Scene SCENE = new Scene(x -> {
        Check.put(x, 0, 3, 4, 6);
        Check.put(x, 1, 0, 2, 4, 1999);
        Check.put(x, 2, 1, 5, 6);
        x.setModulus(7);
    });

    /** Calls that leave the sets and the modulus as they were. */
    private static final Scene.Call[] BEFORE = {
        x -> x.digest(),
        x -> x.isFamily(15) ? 1 : 0,
        x -> x.isRuler(1) ? 1 : 0,
        x -> x.isCyclicRuler(2) ? 1 : 0,
        x -> x.index(2),
        x -> x.multipliers(2),
        x -> x.multipliers(3),
        x -> x.extend(0, 24) + x.undo(),
        x -> x.reflect(1, 0) + x.undo(),
        x -> x.complement(3, 3) + x.undo(),
        x -> x.complement(0, 0) + x.undo(),
        x -> x.canonical(0, 0) + x.undo(),
        x -> x.canonical(2, 2) + x.undo(),
        x -> x.map(2, 3, 1, 0) + x.undo(),
        x -> x.erdosTuran(23, 2) + x.undo(),
        x -> x.ruzsa(23, 5, 2) + x.undo(),
        x -> x.residues(23, 2) + x.undo(),
        x -> x.optimal(7, 2) + x.undo(),
        x -> x.sparse(20, 2) + x.undo(),
        x -> x.firstDifferenceSet(31, 6, 2) + x.undo(),
        x -> x.firstDifferenceSet(16, 6, 2),
        x -> x.firstDifferenceSet(10, 4, 2),
        x -> x.setModulus(1000) + x.multipliers(0) + x.undo(),
        x -> x.setModulus(997) + x.canonical(0, 0) + x.undo() + x.undo(),
        x -> x.setModulus(8) + x.index(0) + x.undo(),
        x -> x.add(2, 2) + x.multipliers(2) + x.undo(),
        x -> x.extend(1, 24),
        x -> x.map(1, 1, 1, 0),
        x -> x.complement(1, 0),
        x -> x.canonical(3, 0),
        x -> x.canonical(1, 0),
        x -> x.ruzsa(23, 22, 0),
        x -> x.residues(9, 0)};

    private static final Scene.Call[] CALLS = {
        x -> x.add(0, 5),
        x -> x.remove(0, 4),
        x -> x.clear(1),
        x -> x.copy(1, 3),
        x -> x.size(0),
        x -> x.mark(0, 2),
        x -> x.mark(0, 3),
        x -> x.length(1),
        x -> x.multiplicity(1, 2),
        x -> x.isRuler(0) ? 1 : 0,
        x -> x.isRuler(1) ? 1 : 0,
        x -> x.completeUpTo(0),
        x -> x.differences(1),
        x -> x.isFamily(9) ? 1 : 0,
        x -> x.isFamily(15) ? 1 : 0,
        x -> x.setModulus(8),
        x -> x.cyclicMultiplicity(0, 1),
        x -> x.isCyclicRuler(0) ? 1 : 0,
        x -> x.index(0),
        x -> x.map(0, 2, 3, 3),
        x -> x.complement(0, 3),
        x -> x.reflect(0, 3),
        x -> x.multipliers(0),
        x -> x.multipliers(2),
        x -> x.multipliers(3),
        x -> x.canonical(0, 3),
        x -> x.canonical(2, 3),
        x -> x.erdosTuran(3, 3),
        x -> x.ruzsa(3, 2, 3),
        x -> x.residues(3, 3),
        x -> x.extend(0, 4),
        x -> x.extend(1, 5),
        x -> x.optimal(3, 3),
        x -> x.sparse(3, 3),
        x -> x.firstDifferenceSet(7, 3, 3),
        x -> x.firstDifferenceSet(8, 3, 3),
        x -> x.setModulus(9) + x.multipliers(0)};

    public static void main(String[] args) {
        for (int i = 0; i < BEFORE.length; i++) {
            for (int j = 0; j < CALLS.length; j++) {
                RulerWorkbench alone = SCENE.bench();
                RulerWorkbench behind = SCENE.bench();
                Scene.outcome(behind, BEFORE[i]);
                String what = "call " + j + " behind call " + i;
                Check.text(what, Scene.outcome(behind, CALLS[j]), Scene.outcome(alone, CALLS[j]));
                Check.text(what + ": the state", Scene.stateText(behind), Scene.stateText(alone));
            }
        }
        Check.end("LeftoversEdgesTest");
    }
}
