/**
 * 'A call that throws an exception changes nothing': each exception that a promise names, with sets, a modulus and saved
 * states that could all be changed, and with no saved state up to a full stack.
 */
public final class RefusalsEdgesTest {
    /** A call that must be refused. */
    private record Refused(String name, Class<?> due, Scene.Call call) {
    }

    private static final Class<?> INDEX = Scene.INDEX;
    private static final Class<?> ARGUMENT = Scene.ARGUMENT;
    private static final Class<?> STATE = Scene.STATE;

    /** Set 0 is full and no ruler, set 1 has too great a mark, set 2 is a ruler, set 3 is empty; the modulus is 1000. */
    private static final Refused[] REFUSED = {
        new Refused("add: no such set", INDEX, x -> x.add(4, 7)),
        new Refused("add: mark is out of range", ARGUMENT, x -> x.add(2, 2001)),
        new Refused("add: the set has this mark", STATE, x -> x.add(2, 9)),
        new Refused("add: the set has 24 marks", STATE, x -> x.add(0, 24)),
        new Refused("remove: no such set", INDEX, x -> x.remove(-1, 5)),
        new Refused("remove: the set does not have this mark", STATE, x -> x.remove(2, 6)),
        new Refused("remove: an empty set", STATE, x -> x.remove(3, 0)),
        new Refused("clear: no such set", INDEX, x -> x.clear(4)),
        new Refused("copy: no such set", INDEX, x -> x.copy(4, 2)),
        new Refused("copy: no such set to replace", INDEX, x -> x.copy(2, 4)),
        new Refused("size: no such set", INDEX, x -> x.size(4)),
        new Refused("mark: no such set", INDEX, x -> x.mark(4, 0)),
        new Refused("mark: no such mark", INDEX, x -> x.mark(2, 3)),
        new Refused("length: no such set", INDEX, x -> x.length(4)),
        new Refused("multiplicity: no such set", INDEX, x -> x.multiplicity(4, 1)),
        new Refused("multiplicity: d is out of range", ARGUMENT, x -> x.multiplicity(2, 2001)),
        new Refused("isRuler: no such set", INDEX, x -> x.isRuler(4) ? 1 : 0),
        new Refused("completeUpTo: no such set", INDEX, x -> x.completeUpTo(4)),
        new Refused("differences: no such set", INDEX, x -> x.differences(4)),
        new Refused("isFamily: sets is out of range", ARGUMENT, x -> x.isFamily(16) ? 1 : 0),
        new Refused("setModulus: m is too small", ARGUMENT, x -> x.setModulus(1)),
        new Refused("setModulus: m is too great", ARGUMENT, x -> x.setModulus(1001)),
        new Refused("cyclicMultiplicity: no such set", INDEX, x -> x.cyclicMultiplicity(4, 1)),
        new Refused("cyclicMultiplicity: d is out of range", ARGUMENT, x -> x.cyclicMultiplicity(2, 1000)),
        new Refused("cyclicMultiplicity: too great a mark", STATE, x -> x.cyclicMultiplicity(1, 1)),
        new Refused("isCyclicRuler: no such set", INDEX, x -> x.isCyclicRuler(4) ? 1 : 0),
        new Refused("isCyclicRuler: too great a mark", STATE, x -> x.isCyclicRuler(1) ? 1 : 0),
        new Refused("index: no such set", INDEX, x -> x.index(4)),
        new Refused("index: too great a mark", STATE, x -> x.index(1)),
        new Refused("map: no such set", INDEX, x -> x.map(4, 1, 1, 2)),
        new Refused("map: no such set to replace", INDEX, x -> x.map(2, 1, 1, 4)),
        new Refused("map: t is out of range", ARGUMENT, x -> x.map(2, 1001, 1, 2)),
        new Refused("map: s is out of range", ARGUMENT, x -> x.map(2, 1, 1001, 2)),
        new Refused("map: too great a mark", STATE, x -> x.map(1, 1, 1, 2)),
        new Refused("complement: no such set", INDEX, x -> x.complement(4, 2)),
        new Refused("complement: no such set to replace", INDEX, x -> x.complement(2, 4)),
        new Refused("complement: too great a mark", STATE, x -> x.complement(1, 2)),
        new Refused("complement: more than 24 marks", STATE, x -> x.complement(0, 2)),
        new Refused("reflect: no such set", INDEX, x -> x.reflect(4, 2)),
        new Refused("reflect: no such set to replace", INDEX, x -> x.reflect(2, 4)),
        new Refused("multipliers: no such set", INDEX, x -> x.multipliers(4)),
        new Refused("multipliers: too great a mark", STATE, x -> x.multipliers(1)),
        new Refused("canonical: no such set", INDEX, x -> x.canonical(4, 2)),
        new Refused("canonical: no such set to replace", INDEX, x -> x.canonical(2, 4)),
        new Refused("canonical: an empty set", STATE, x -> x.canonical(3, 2)),
        new Refused("canonical: too great a mark", STATE, x -> x.canonical(1, 2)),
        new Refused("erdosTuran: no such set", INDEX, x -> x.erdosTuran(5, 4)),
        new Refused("erdosTuran: p is out of range", ARGUMENT, x -> x.erdosTuran(29, 2)),
        new Refused("erdosTuran: p is no prime", ARGUMENT, x -> x.erdosTuran(9, 2)),
        new Refused("ruzsa: no such set", INDEX, x -> x.ruzsa(5, 2, 4)),
        new Refused("ruzsa: p is out of range", ARGUMENT, x -> x.ruzsa(29, 2, 2)),
        new Refused("ruzsa: p is no prime", ARGUMENT, x -> x.ruzsa(9, 2, 2)),
        new Refused("ruzsa: g is no primitive root", ARGUMENT, x -> x.ruzsa(5, 4, 2)),
        new Refused("residues: no such set", INDEX, x -> x.residues(5, 4)),
        new Refused("residues: p is out of range", ARGUMENT, x -> x.residues(29, 2)),
        new Refused("residues: p is no prime", ARGUMENT, x -> x.residues(9, 2)),
        new Refused("extend: no such set", INDEX, x -> x.extend(4, 5)),
        new Refused("extend: n is out of range", ARGUMENT, x -> x.extend(2, 25)),
        new Refused("extend: no ruler", STATE, x -> x.extend(0, 24)),
        new Refused("extend: more than n marks", STATE, x -> x.extend(2, 2)),
        new Refused("extend: a mark above 2000", STATE, x -> x.extend(1, 5)),
        new Refused("optimal: no such set", INDEX, x -> x.optimal(5, 4)),
        new Refused("optimal: n is out of range", ARGUMENT, x -> x.optimal(8, 2)),
        new Refused("sparse: no such set", INDEX, x -> x.sparse(5, 4)),
        new Refused("sparse: n is out of range", ARGUMENT, x -> x.sparse(21, 2)),
        new Refused("firstDifferenceSet: no such set", INDEX, x -> x.firstDifferenceSet(7, 3, 4)),
        new Refused("firstDifferenceSet: v is out of range", ARGUMENT, x -> x.firstDifferenceSet(32, 3, 2)),
        new Refused("firstDifferenceSet: k is out of range", ARGUMENT, x -> x.firstDifferenceSet(7, 7, 2)),
        new Refused("firstDifferenceSet: k is not less than v", ARGUMENT, x -> x.firstDifferenceSet(6, 6, 2))};

    public static void main(String[] args) {
        for (int saved = 0; saved <= 4; saved++) {
            Scene scene = rich(saved);
            for (Refused refused : REFUSED) {
                scene.refuses(refused.name() + ", behind " + saved, refused.due(), refused.call());
            }
            scene.tells("firstDifferenceSet: NONE, behind " + saved, RulerWorkbench.NONE,
                    x -> x.firstDifferenceSet(10, 4, 2));
            scene.tells("firstDifferenceSet: NONE after a search, behind " + saved, RulerWorkbench.NONE,
                    x -> x.firstDifferenceSet(16, 6, 2));
        }
        rich(0).refuses("undo: the stack is empty", STATE, x -> x.undo());
        Check.end("RefusalsEdgesTest");
    }

    /** The stack holds so many states: the four latest calls of the set-up are undone, and as many are made again. */
    private static Scene rich(int saved) {
        return new Scene(x -> {
            Check.put(x, 0, Scene.steps(24, 0, 1));
            Check.put(x, 1, 0, 1, 1999);
            Check.put(x, 2, 5, 9, 14);
            x.setModulus(1000);
            for (int i = 0; i < 4; i++) {
                x.clear(3);
            }
            for (int i = 0; i < 4; i++) {
                x.undo();
            }
            for (int i = 0; i < saved; i++) {
                if (i % 2 == 0) {
                    x.add(1, 500 + i);
                } else {
                    x.remove(1, 500 + i - 1);
                }
            }
        });
    }
}
