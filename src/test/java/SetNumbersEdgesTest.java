/**
 * "There are four sets, numbered 0 to 3": each argument of each method that is a set's number takes 0 and 3, means that
 * set alone, and throws IndexOutOfBoundsException outside; also if other exceptions apply, as it is listed first.
 */
public final class SetNumbersEdgesTest {
    private static final String SENTENCE = "'there is no such set': ";

    public static void main(String[] args) {
        asking();
        changing();
        changingTo();
        searching();
        wrongInAllWays();
        bothNumbers();
        Check.end("SetNumbersEdgesTest");
    }

    /** Every call below is taken with each set; the stack is full. */
    private static Scene four() {
        return new Scene(x -> {
            for (int set = 0; set < 4; set++) {
                Check.put(x, set, 1, 3 + set);
            }
            x.setModulus(13);
        });
    }

    private static void number(String name, Scene.Open call) {
        four().range(SENTENCE + name, Scene.INDEX, 0, 3, call);
        four().takes(SENTENCE + name, 1, call);
        four().takes(SENTENCE + name, 2, call);
    }

    private static void asking() {
        number("size", (x, set) -> x.size(set));
        number("mark", (x, set) -> x.mark(set, 0));
        number("length", (x, set) -> x.length(set));
        number("multiplicity", (x, set) -> x.multiplicity(set, 2));
        number("isRuler", (x, set) -> x.isRuler(set) ? 1 : 0);
        number("completeUpTo", (x, set) -> x.completeUpTo(set));
        number("differences", (x, set) -> x.differences(set));
        number("cyclicMultiplicity", (x, set) -> x.cyclicMultiplicity(set, 2));
        number("isCyclicRuler", (x, set) -> x.isCyclicRuler(set) ? 1 : 0);
        number("index", (x, set) -> x.index(set));
        number("multipliers", (x, set) -> x.multipliers(set));
        for (int set = 0; set < 4; set++) {
            int here = set;
            four().tells("size asks set " + set, 2, x -> x.size(here));
            four().tells("mark asks set " + set, 3 + set, x -> x.mark(here, 1));
            four().tells("length asks set " + set, 2 + set, x -> x.length(here));
            four().tells("multiplicity asks set " + set, 1, x -> x.multiplicity(here, 2 + here));
            four().tells("isRuler asks set " + set, 1, x -> x.isRuler(here) ? 1 : 0);
            four().tells("completeUpTo asks set " + set, 0, x -> x.completeUpTo(here));
            four().tells("differences asks set " + set, 1, x -> x.differences(here));
            four().tells("cyclicMultiplicity asks set " + set, 1, x -> x.cyclicMultiplicity(here, 11 - here));
            four().tells("isCyclicRuler asks set " + set, 1, x -> x.isCyclicRuler(here) ? 1 : 0);
            four().tells("index asks set " + set, RulerWorkbench.NONE, x -> x.index(here));
            four().tells("multipliers asks set " + set, 2, x -> x.multipliers(here));
        }
    }

    /** The call changes the set with this number, and no other. */
    private static void changes(String name, Scene.Open call) {
        number(name, call);
        for (int number = 0; number < 4; number++) {
            RulerWorkbench before = four().bench();
            RulerWorkbench after = four().bench();
            call.on(after, number);
            for (int set = 0; set < 4; set++) {
                String what = name + " with the set " + number + " changes set " + set;
                boolean same = Scene.setText(after, set).equals(Scene.setText(before, set));
                Check.same(what, same ? 0 : 1, set == number ? 1 : 0);
            }
        }
    }

    private static void changing() {
        changes("add", (x, set) -> x.add(set, 12));
        changes("remove", (x, set) -> x.remove(set, 1));
        changes("clear", (x, set) -> x.clear(set));
        changes("extend", (x, set) -> x.extend(set, 4));
        number("copy from", (x, set) -> x.copy(set, 0));
        number("map from", (x, set) -> x.map(set, 1, 1, 0));
        number("complement from", (x, set) -> x.complement(set, 0));
        number("reflect from", (x, set) -> x.reflect(set, 0));
        number("canonical from", (x, set) -> x.canonical(set, 0));
    }

    /** 'number of the set that is replaced, 0 to 3, possibly the same' */
    private static void changingTo() {
        changes("copy to", (x, to) -> x.copy(to + 1 & 3, to));
        changes("map to", (x, to) -> x.map(0, 2, 0, to));
        changes("complement to", (x, to) -> x.complement(0, to));
        changes("reflect to", (x, to) -> x.reflect(0, to));
        changes("canonical to", (x, to) -> x.canonical(0, to));
        for (int set = 0; set < 4; set++) {
            int here = set;
            four().makes("copy onto itself", 2, x -> x.copy(here, here), set, 1, 3 + set);
            four().makes("map onto itself", 2, x -> x.map(here, 1, 12, here), set, 0, 2 + set);
            four().makes("reflect onto itself", 2, x -> x.reflect(here, here), set, 0, 2 + set);
            four().makes("canonical onto itself", 2, x -> x.canonical(here, here), set, 0, 1);
            four().saves("complement onto itself", 11, x -> x.complement(here, here));
        }
    }

    private static void searching() {
        changes("erdosTuran", (x, to) -> x.erdosTuran(3, to));
        changes("ruzsa", (x, to) -> x.ruzsa(5, 2, to));
        changes("residues", (x, to) -> x.residues(3, to));
        changes("optimal", (x, to) -> x.optimal(3, to));
        changes("sparse", (x, to) -> x.sparse(3, to));
        changes("firstDifferenceSet", (x, to) -> x.firstDifferenceSet(7, 3, to));
    }

    /** 'If several exceptions of a method apply, the one that is listed first is thrown': all that can be wrong is. */
    private static void wrongInAllWays() {
        String sentence = "'the one that is listed first': ";
        for (int wrong : new int[] {-1, 4, Integer.MIN_VALUE, Integer.MAX_VALUE}) {
            refused(sentence + "add", x -> x.add(wrong, -1));
            refused(sentence + "add", x -> x.add(wrong, 2001));
            refused(sentence + "remove", x -> x.remove(wrong, -1));
            refused(sentence + "mark", x -> x.mark(wrong, -1));
            refused(sentence + "mark", x -> x.mark(wrong, 24));
            refused(sentence + "multiplicity", x -> x.multiplicity(wrong, 0));
            refused(sentence + "multiplicity", x -> x.multiplicity(wrong, 2001));
            refused(sentence + "cyclicMultiplicity", x -> x.cyclicMultiplicity(wrong, 0));
            refused(sentence + "cyclicMultiplicity", x -> x.cyclicMultiplicity(wrong, 13));
            refused(sentence + "map from", x -> x.map(wrong, -1, 1001, 0));
            refused(sentence + "map to", x -> x.map(3, -1, 1001, wrong));
            refused(sentence + "map to, of too great a mark", x -> x.map(3, 1, 1, wrong));
            refused(sentence + "complement to, of too great a mark", x -> x.complement(3, wrong));
            refused(sentence + "complement to, of too many", x -> x.complement(2, wrong));
            refused(sentence + "canonical to, of an empty set", x -> x.canonical(1, wrong));
            refused(sentence + "canonical to, of too great a mark", x -> x.canonical(3, wrong));
            refused(sentence + "erdosTuran", x -> x.erdosTuran(4, wrong));
            refused(sentence + "ruzsa, p", x -> x.ruzsa(4, 2, wrong));
            refused(sentence + "ruzsa, g", x -> x.ruzsa(5, 4, wrong));
            refused(sentence + "residues", x -> x.residues(4, wrong));
            refused(sentence + "extend", x -> x.extend(wrong, 0));
            refused(sentence + "extend", x -> x.extend(wrong, 25));
            refused(sentence + "optimal", x -> x.optimal(0, wrong));
            refused(sentence + "optimal", x -> x.optimal(8, wrong));
            refused(sentence + "sparse", x -> x.sparse(0, wrong));
            refused(sentence + "sparse", x -> x.sparse(21, wrong));
            refused(sentence + "firstDifferenceSet, v", x -> x.firstDifferenceSet(2, 2, wrong));
            refused(sentence + "firstDifferenceSet, k", x -> x.firstDifferenceSet(7, 7, wrong));
            refused("'NONE is returned only if no exception applies'", x -> x.firstDifferenceSet(10, 4, wrong));
            refused("'NONE is returned only if no exception applies'", x -> x.firstDifferenceSet(16, 6, wrong));
        }
    }

    /** Set 1 is empty, set 2 has one mark, set 3 a mark of 2000; the modulus is 31. */
    private static void refused(String sentence, Scene.Call call) {
        new Scene(x -> {
            Check.put(x, 0, 0, 2, 4);
            Check.put(x, 2, 30);
            Check.put(x, 3, 2000);
        }).refuses(sentence, Scene.INDEX, call);
    }

    private static void bothNumbers() {
        String sentence = SENTENCE + "both numbers are wrong, ";
        four().refuses(sentence + "copy", Scene.INDEX, x -> x.copy(-1, 4));
        four().refuses(sentence + "map", Scene.INDEX, x -> x.map(4, 1, 1, -1));
        four().refuses(sentence + "complement", Scene.INDEX, x -> x.complement(-1, 4));
        four().refuses(sentence + "reflect", Scene.INDEX, x -> x.reflect(4, -1));
        four().refuses(sentence + "canonical", Scene.INDEX, x -> x.canonical(-1, -1));
    }
}
