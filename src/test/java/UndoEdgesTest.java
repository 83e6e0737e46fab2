import java.math.BigInteger;

/** The boundaries that promises 30 and 31, 'UNDO' and 'EXCEPTIONS' name; each case begins with its sentence. */
public final class UndoEdgesTest {
    public static void main(String[] args) {
        emptyStack();
        statesLeft();
        dropped();
        everyUndoable();
        alsoIfNothingChanges();
        notUndoable();
        undoIsNotUndone();
        saveAfterUndo();
        lastCall();
        digestOfStates();
        digestOfMarks();
        digestAtTheModulus();
        digestWraps();
        Check.end("UndoEdgesTest");
    }

    /** n undoable calls, each with a state of its own. */
    private static Scene steps(int n) {
        return new Scene(x -> Check.put(x, 0, Scene.steps(n, 1, 3)));
    }

    private static void emptyStack() {
        String sentence = "'if the stack is empty': ";
        Scene.fresh().refuses(sentence + "a new object", Scene.STATE, x -> x.undo());
        for (int n = 1; n <= 6; n++) {
            int calls = n;
            Scene emptied = new Scene(x -> {
                Check.put(x, 0, Scene.steps(calls, 1, 3));
                undoAll(x, Math.min(calls, 4));
            });
            emptied.refuses(sentence + "emptied behind " + n + " calls", Scene.STATE, x -> x.undo());
        }
        Scene none = new Scene(x -> x.firstDifferenceSet(10, 4, 0));
        none.refuses(sentence + "behind NONE", Scene.STATE, x -> x.undo());
        Scene.fresh().answers("'Returns the number of states that are left': refused and then saved", 0, x -> {
            try {
                x.undo();
            } catch (IllegalStateException e) {
                x.add(0, 1);
            }
            return x.undo();
        });
    }

    private static void undoAll(RulerWorkbench x, int n) {
        for (int i = 0; i < n; i++) {
            x.undo();
        }
    }

    private static void statesLeft() {
        String sentence = "'Returns the number of states that are left on the stack': ";
        for (int n = 1; n <= 9; n++) {
            RulerWorkbench x = steps(n).bench();
            int saved = Math.min(n, 4);
            for (int left = saved - 1; left >= 0; left--) {
                Check.same(sentence + n + " calls", x.undo(), left);
                Check.marks("'Restores the latest saved state': " + n + " calls", x, 0,
                        Scene.steps(n - saved + left, 1, 3));
            }
            Check.state(x, "'keeps the latest 4 saved states': " + n + " calls", () -> x.undo());
        }
    }

    private static void dropped() {
        String sentence = "'keeps the latest 4 saved states and drops older ones': ";
        steps(3).makes(sentence + "the fourth", 3, x -> x.add(0, 2000), 0, 1, 4, 7, 2000);
        steps(4).makes(sentence + "the fifth", 4, x -> x.add(0, 2000), 0, 1, 4, 7, 10, 2000);
        steps(24).saves(sentence + "after 24", 24, x -> x.clear(0));
        Scene mixed = new Scene(x -> {
            x.setModulus(5);
            x.add(0, 1);
            x.add(1, 2);
            x.add(2, 3);
            x.add(3, 4);
            undoAll(x, 4);
        });
        mixed.tells(sentence + "the modulus of the first call stays", 0, x -> x.size(0));
        mixed.leavesModulus(sentence + "the modulus of the first call stays", 5, x -> 0);
        mixed.refuses(sentence + "four are undone", Scene.STATE, x -> x.undo());
    }

    /** 'Every method that is marked "undoable" saves the sets and the modulus': with an empty, a short and a full stack. */
    private static void everyUndoable() {
        undoable("add", 1, x -> x.add(0, 3));
        undoable("remove", 0, x -> x.remove(0, 1));
        undoable("clear", 1, x -> x.clear(0));
        undoable("copy", 1, x -> x.copy(0, 3));
        undoable("setModulus", 3, x -> x.setModulus(9));
        undoable("map", 1, x -> x.map(0, 1, 1, 3));
        undoable("complement", 2, x -> x.complement(0, 3));
        undoable("reflect", 1, x -> x.reflect(0, 3));
        undoable("canonical", 1, x -> x.canonical(0, 3));
        undoable("erdosTuran", 13, x -> x.erdosTuran(3, 3));
        undoable("ruzsa", 9, x -> x.ruzsa(5, 2, 3));
        undoable("residues", 2, x -> x.residues(5, 3));
        undoable("extend", 2, x -> x.extend(0, 2));
        undoable("optimal", 6, x -> x.optimal(4, 3));
        undoable("sparse", 3, x -> x.sparse(3, 3));
        undoable("firstDifferenceSet", 1, x -> x.firstDifferenceSet(7, 3, 3));
    }

    private static void undoable(String name, long due, Scene.Call call) {
        String sentence = "'Undoable': " + name;
        for (int n = 0; n <= 6; n++) {
            int older = n;
            Scene scene = new Scene(x -> {
                x.add(0, 1);
                x.setModulus(3);
                emptyTheStack(x);
                for (int i = 0; i < older; i++) {
                    x.add(1, 2 * i);
                }
            });
            scene.saves(sentence + " behind " + n, due, call);
        }
    }

    /** Four calls drop all states that were saved before them. */
    private static void emptyTheStack(RulerWorkbench x) {
        for (int i = 0; i < 4; i++) {
            x.clear(3);
        }
        undoAll(x, 4);
    }

    private static void alsoIfNothingChanges() {
        String sentence = "'also if it changes nothing': ";
        Scene.fresh().savesUnchanged(sentence + "clear", 0, x -> x.clear(0));
        Scene.fresh().savesUnchanged(sentence + "copy", 0, x -> x.copy(0, 1));
        Scene.fresh().savesUnchanged(sentence + "setModulus", 31, x -> x.setModulus(31));
        Scene.fresh().savesUnchanged(sentence + "map", 0, x -> x.map(0, 1, 0, 0));
        Scene.fresh().savesUnchanged(sentence + "reflect", 0, x -> x.reflect(0, 1));
        twice(sentence + "clear", 0, x -> x.clear(0));
        twice(sentence + "copy", 4, x -> x.copy(0, 1));
        twice(sentence + "copy onto itself", 4, x -> x.copy(0, 0));
        twice(sentence + "setModulus", 13, x -> x.setModulus(13));
        twice(sentence + "map", 4, x -> x.map(0, 1, 0, 0));
        twice(sentence + "complement", 9, x -> x.complement(0, 1));
        twice(sentence + "reflect", 4, x -> x.reflect(0, 1));
        twice(sentence + "canonical", 4, x -> x.canonical(0, 0));
        twice(sentence + "erdosTuran", 13, x -> x.erdosTuran(3, 0));
        twice(sentence + "ruzsa", 9, x -> x.ruzsa(5, 2, 0));
        twice(sentence + "residues", 2, x -> x.residues(5, 0));
        twice(sentence + "extend", 6, x -> x.extend(0, 4));
        twice(sentence + "optimal", 11, x -> x.optimal(5, 0));
        twice(sentence + "sparse", 4, x -> x.sparse(6, 0));
        twice(sentence + "firstDifferenceSet", 1, x -> x.firstDifferenceSet(7, 3, 0));
    }

    /** The second of two equal calls has nothing to change. */
    private static void twice(String sentence, long due, Scene.Call call) {
        new Scene(x -> {
            Check.put(x, 0, 0, 1, 4, 6);
            x.setModulus(13);
            call.on(x);
        }).savesUnchanged(sentence, due, call);
    }

    private static void notUndoable() {
        String sentence = "a call that is not marked 'undoable' saves nothing: ";
        for (Scene scene : new Scene[] {Scene.busy(), Scene.with(0, 1, 4, 6), Scene.modulo(13, 0, 1, 4, 6)}) {
            scene.tells(sentence + "size", 4, x -> x.size(0));
            scene.tells(sentence + "mark", 6, x -> x.mark(0, 3));
            scene.tells(sentence + "length", 6, x -> x.length(0));
            scene.tells(sentence + "multiplicity", 1, x -> x.multiplicity(0, 6));
            scene.tells(sentence + "isRuler", 1, x -> x.isRuler(0) ? 1 : 0);
            scene.tells(sentence + "completeUpTo", 6, x -> x.completeUpTo(0));
            scene.tells(sentence + "differences", 6, x -> x.differences(0));
            scene.tells(sentence + "isFamily", 1, x -> x.isFamily(1) ? 1 : 0);
            scene.tells(sentence + "cyclicMultiplicity", 1, x -> x.cyclicMultiplicity(0, 1));
            scene.tells(sentence + "isCyclicRuler", 1, x -> x.isCyclicRuler(0) ? 1 : 0);
            scene.tells(sentence + "digest", scene.bench().digest(), x -> x.digest());
        }
        Scene.busy().tells(sentence + "index", 1, x -> x.index(0));
        Scene.busy().tells(sentence + "multipliers", 3, x -> x.multipliers(0));
    }

    private static void undoIsNotUndone() {
        String sentence = "'removes it from the undo stack', undo saves nothing: ";
        RulerWorkbench x = steps(4).bench();
        Check.same(sentence + "the first undo", x.undo(), 3);
        Check.same(sentence + "the second undo", x.undo(), 2);
        Check.marks(sentence + "two marks less", x, 0, 1, 4);
    }

    private static void saveAfterUndo() {
        String sentence = "'Restores the latest saved state': saved again behind an undo, ";
        for (int n = 1; n <= 8; n++) {
            RulerWorkbench x = steps(n).bench();
            x.undo();
            x.add(1, 5);
            x.undo();
            Check.marks(sentence + n, x, 0, Scene.steps(n - 1, 1, 3));
            Check.marks(sentence + n, x, 1);
            x.add(1, 6);
            x.add(1, 7);
            Check.same(sentence + n, x.undo(), Math.min(n, 3));
            Check.marks(sentence + n, x, 1, 6);
        }
    }

    /** 'An object is used for at most 512 calls': the last of them are as good as the first ones. */
    private static void lastCall() {
        RulerWorkbench x = new RulerWorkbench();
        for (int call = 1; call <= 506; call += 2) {
            Check.same("call " + call + ": add", x.add(0, call), 0);
            Check.same("call " + (call + 1) + ": clear", x.clear(0), 1);
        }
        Check.same("call 507: undo", x.undo(), 3);
        Check.same("call 508: mark", x.mark(0, 0), 505);
        Check.same("call 509: undo", x.undo(), 2);
        Check.same("call 510: undo", x.undo(), 1);
        Check.same("call 511: mark", x.mark(0, 0), 503);
        Check.same("call 512: undo", x.undo(), 0);
    }

    /** The document's formula over numbers without an end, and then the 64 bits that a long keeps. */
    private static long formula(RulerWorkbench x, int states, int modulus) {
        BigInteger h = mixed(mixed(BigInteger.valueOf(12467), states), modulus);
        for (int set = 0; set < 4; set++) {
            int size = x.size(set);
            h = mixed(h, size);
            for (int i = 0; i < size; i++) {
                h = mixed(h, x.mark(set, i));
            }
            h = mixed(h, x.isRuler(set) ? 1 : 0);
            h = mixed(mixed(h, x.completeUpTo(set)), x.differences(set));
            if (size == 0 || x.mark(set, size - 1) < modulus) {
                h = mixed(mixed(h, x.index(set)), x.multipliers(set));
            }
        }
        for (int mask = 0; mask <= 15; mask++) {
            h = mixed(h, x.isFamily(mask) ? 1 : 0);
        }
        Check.yes("'overflow wraps': the hash is beyond a long", h.bitLength() > 64);
        return h.longValue();
    }

    private static BigInteger mixed(BigInteger h, int value) {
        return h.multiply(BigInteger.valueOf(31)).add(BigInteger.valueOf(value));
    }

    private static void digest(String sentence, Scene scene, int states, int modulus) {
        RulerWorkbench asked = scene.bench();
        scene.tells(sentence, formula(asked, states, modulus), x -> x.digest());
        Check.same(sentence + ": the other calls leave it", asked.digest(), formula(asked, states, modulus));
    }

    private static void digestOfStates() {
        String sentence = "'the number of states on the undo stack': ";
        digest(sentence + "a new object", Scene.fresh(), 0, 31);
        for (int n = 1; n <= 6; n++) {
            digest(sentence + n + " calls", steps(n), Math.min(n, 4), 31);
        }
        digest(sentence + "an undo", new Scene(x -> {
            Check.put(x, 0, 0, 1, 3, 7, 12);
            x.undo();
        }), 3, 31);
        digest("'the modulus': the least", Scene.modulo(2, 0, 1), 3, 2);
        digest("'the modulus': the greatest", Scene.modulo(1000, 0, 1, 999), 4, 1000);
    }

    private static void digestOfMarks() {
        String sentence = "'for each set: size(), each mark': ";
        for (int set = 0; set < 4; set++) {
            int here = set;
            digest(sentence + "one mark in set " + set, new Scene(x -> x.add(here, 0)), 1, 31);
            digest(sentence + "24 marks in set " + set, new Scene(x -> x.extend(here, 24)), 1, 31);
            digest(sentence + "no ruler in set " + set, new Scene(x -> Check.put(x, here, 28, 29, 30)), 3, 31);
        }
        digest(sentence + "four sets of 24", new Scene(x -> {
            Check.put(x, 0, Scene.steps(24, 0, 1));
            Check.put(x, 1, Scene.steps(24, 0, 41));
            x.extend(2, 24);
            Check.put(x, 3, Scene.steps(24, 160, 80));
            x.setModulus(984);
        }), 4, 984);
        digest(sentence + "a busy object", Scene.busy(), 4, 13);
    }

    private static void digestAtTheModulus() {
        String sentence = "'if all its marks are less than the modulus': ";
        for (int m : new int[] {2, 31, 1000}) {
            digest(sentence + "m - 1", Scene.modulo(m, m - 1), 2, m);
            digest(sentence + "m", Scene.modulo(m, m), 2, m);
            digest(sentence + "0 and m - 1", Scene.modulo(m, 0, m - 1), 3, m);
            digest(sentence + "0 and m", Scene.modulo(m, 0, m), 3, m);
        }
        Scene less = Scene.modulo(1000, 999);
        Scene equal = Scene.modulo(999, 999);
        Check.no(sentence + "both are not the same", less.bench().digest() == equal.bench().digest());
    }

    /** Written out once by hand, so that a fault in the calls that the formula asks can't hide. */
    private static void digestWraps() {
        BigInteger h = BigInteger.valueOf(12467);
        int[] values = {3, 2,
            2, 0, 1, 1, 1, 1, 2, 1,
            0, 1, 0, 0, -1, 1,
            0, 1, 0, 0, -1, 1,
            0, 1, 0, 0, -1, 1,
            1, 1, 1, 1, 1, 1, 1, 1, 1, 1, 1, 1, 1, 1, 1, 1};
        for (int value : values) {
            h = mixed(h, value);
        }
        Check.same("'long arithmetic, overflow wraps'", Scene.modulo(2, 0, 1).bench().digest(), h.longValue());
    }
}
