/** The boundaries that promises 14 to 19 and 'MODULUS' name; each case begins with the sentence that it is about. */
public final class ModulusEdgesTest {
    private static final String TOO_GREAT = "'a mark that is not less than the modulus': ";
    private static final int NONE = RulerWorkbench.NONE;

    public static void main(String[] args) {
        setModulus();
        tooGreatMarks();
        cyclicMultiplicityRange();
        cyclicMultiplicity();
        isCyclicRuler();
        index();
        noIndex();
        mapRange();
        mapWraps();
        mapEqualNumbers();
        complement();
        complementFull();
        Check.end("ModulusEdgesTest");
    }

    private static int[] row() {
        return Scene.steps(24, 0, 1);
    }

    private static void setModulus() {
        String sentence = "'m: 2 to 1000': setModulus";
        Scene.busy().range(sentence, Scene.ARGUMENT, 2, 1000, (x, m) -> x.setModulus(m));
        Scene.fresh().range(sentence, Scene.ARGUMENT, 2, 1000, (x, m) -> x.setModulus(m));
        Scene.busy().refuses(sentence + " 0", Scene.ARGUMENT, x -> x.setModulus(0));
        Scene.busy().refuses(sentence + " -13", Scene.ARGUMENT, x -> x.setModulus(-13));
        String previous = "'Returns the previous modulus': ";
        Scene.fresh().saves(previous + "31 at first", 31, x -> x.setModulus(2));
        Scene.busy().saves(previous + "13", 13, x -> x.setModulus(1000));
        Scene.busy().savesUnchanged(previous + "the same", 13, x -> x.setModulus(13));
        Scene.modulo(2).saves(previous + "2", 2, x -> x.setModulus(1000));
        Scene.modulo(1000).saves(previous + "1000", 1000, x -> x.setModulus(2));
        Scene.busy().leavesModulus("the least modulus", 2, x -> x.setModulus(2));
        Scene.busy().leavesModulus("the greatest modulus", 1000, x -> x.setModulus(1000));
        Scene.busy().makes("marks that are too great for it stay", 13, x -> x.setModulus(2), 0, 0, 1, 4, 6);
    }

    /** Every call that names this exception, at both sides of it: a mark of m - 1, and one of m. */
    private static void tooGreatMarks() {
        tooGreat("cyclicMultiplicity", x -> x.cyclicMultiplicity(0, 1));
        tooGreat("isCyclicRuler", x -> x.isCyclicRuler(0) ? 1 : 0);
        tooGreat("index", x -> x.index(0));
        tooGreat("map", x -> x.map(0, 1, 1, 1));
        tooGreat("map onto itself", x -> x.map(0, 0, 0, 0));
        tooGreat("multipliers", x -> x.multipliers(0));
        tooGreat("canonical", x -> x.canonical(0, 1));
        tooGreat("canonical onto itself", x -> x.canonical(0, 0));
        for (int m : new int[] {2, 13, 24, 25}) {
            Scene.modulo(m, m - 1).takes(TOO_GREAT + "complement", 1, (x, to) -> x.complement(0, to));
            Scene.modulo(m, m).refuses(TOO_GREAT + "complement", Scene.STATE, x -> x.complement(0, 1));
            Scene.modulo(m, 0, m).refuses(TOO_GREAT + "complement", Scene.STATE, x -> x.complement(0, 0));
            Scene.modulo(m, 2000).refuses(TOO_GREAT + "complement", Scene.STATE, x -> x.complement(0, 1));
        }
        Scene full = Scene.modulo(24, Scene.steps(24, 1, 1));
        full.refuses(TOO_GREAT + "the last of 24 marks, complement", Scene.STATE, x -> x.complement(0, 1));
        Scene other = new Scene(x -> {
            Check.put(x, 0, 0, 1);
            Check.put(x, 1, 31, 2000);
        });
        other.makes("a mark of the set that is replaced may be: map", 2, x -> x.map(0, 1, 0, 1), 1, 0, 1);
        other.makes("a mark of the set that is replaced may be: canonical", 2, x -> x.canonical(0, 1), 1, 0, 1);
        Scene small = new Scene(x -> {
            Check.put(x, 1, 31, 2000);
            x.setModulus(2);
        });
        small.makes("a mark of the set that is replaced may be: complement", 2, x -> x.complement(0, 1), 1, 0, 1);
    }

    private static void tooGreat(String name, Scene.Call call) {
        for (int m : new int[] {2, 31, 999, 1000}) {
            Scene.modulo(m, m - 1).takes(TOO_GREAT + name, m, (x, any) -> call.on(x));
            Scene.modulo(m, 0, m - 1).takes(TOO_GREAT + name, m, (x, any) -> call.on(x));
            Scene.modulo(m, m).refuses(TOO_GREAT + name, Scene.STATE, call);
            Scene.modulo(m, 0, m).refuses(TOO_GREAT + name, Scene.STATE, call);
            Scene.modulo(m, 0, m - 1, m).refuses(TOO_GREAT + name, Scene.STATE, call);
            Scene.modulo(m, 2000).refuses(TOO_GREAT + name, Scene.STATE, call);
        }
        Scene.modulo(25, Scene.steps(24, 1, 1)).takes(TOO_GREAT + "24 marks, " + name, 25, (x, any) -> call.on(x));
        Scene.modulo(24, Scene.steps(24, 1, 1)).refuses(TOO_GREAT + "24 marks, " + name, Scene.STATE, call);
    }

    private static void cyclicMultiplicityRange() {
        String sentence = "'d: 1 to m - 1': cyclicMultiplicity";
        Scene.fresh().range(sentence, Scene.ARGUMENT, 1, 30, (x, d) -> x.cyclicMultiplicity(0, d));
        Scene.busy().range(sentence, Scene.ARGUMENT, 1, 12, (x, d) -> x.cyclicMultiplicity(0, d));
        Scene.modulo(2, 0, 1).range(sentence, Scene.ARGUMENT, 1, 1, (x, d) -> x.cyclicMultiplicity(0, d));
        Scene.modulo(1000, row()).range(sentence, Scene.ARGUMENT, 1, 999, (x, d) -> x.cyclicMultiplicity(0, d));
        String first = "'the one that is listed first': a mark of 31, and d is ";
        for (int wrong : new int[] {0, 31, -1, Integer.MIN_VALUE, Integer.MAX_VALUE}) {
            Scene.with(31).refuses(first + wrong, Scene.ARGUMENT, x -> x.cyclicMultiplicity(0, wrong));
        }
    }

    private static void cyclicMultiplicity() {
        String sentence = "'the number of ordered pairs with (a - b) modulo m = d': ";
        Scene.fresh().tells(sentence + "an empty set", 0, x -> x.cyclicMultiplicity(0, 30));
        Scene.with(30).tells(sentence + "one mark", 0, x -> x.cyclicMultiplicity(0, 30));
        Scene.with(1).tells(sentence + "one mark", 0, x -> x.cyclicMultiplicity(0, 1));
        Scene.modulo(2, 0, 1).tells(sentence + "0 1 modulo 2: both orders", 2, x -> x.cyclicMultiplicity(0, 1));
        Scene.modulo(3, 0, 1).tells(sentence + "0 1 modulo 3", 1, x -> x.cyclicMultiplicity(0, 1));
        Scene.modulo(3, 0, 1).tells(sentence + "0 1 modulo 3: around", 1, x -> x.cyclicMultiplicity(0, 2));
        Scene ends = Scene.modulo(1000, 0, 999);
        ends.tells(sentence + "0 999 modulo 1000: around", 1, x -> x.cyclicMultiplicity(0, 1));
        ends.tells(sentence + "0 999 modulo 1000", 1, x -> x.cyclicMultiplicity(0, 999));
        ends.tells(sentence + "0 999 modulo 1000, 2", 0, x -> x.cyclicMultiplicity(0, 2));
        Scene half = Scene.modulo(1000, 0, 500);
        half.tells(sentence + "0 500 modulo 1000: both orders", 2, x -> x.cyclicMultiplicity(0, 500));
        half.tells(sentence + "0 500 modulo 1000, 499", 0, x -> x.cyclicMultiplicity(0, 499));
        Scene.modulo(24, row()).tells(sentence + "24 of 24, 1", 24, x -> x.cyclicMultiplicity(0, 1));
        Scene.modulo(24, row()).tells(sentence + "24 of 24, 23", 24, x -> x.cyclicMultiplicity(0, 23));
        Scene.modulo(24, row()).tells(sentence + "24 of 24, 12", 24, x -> x.cyclicMultiplicity(0, 12));
        Scene.modulo(25, row()).tells(sentence + "24 of 25, 1", 23, x -> x.cyclicMultiplicity(0, 1));
        Scene.modulo(47, row()).tells(sentence + "24 of 47, 24", 1, x -> x.cyclicMultiplicity(0, 24));
        Scene.modulo(48, row()).tells(sentence + "24 of 48, 24", 0, x -> x.cyclicMultiplicity(0, 24));
    }

    private static void isCyclicRuler() {
        String sentence = "'a cyclic ruler if no cyclic multiplicity is greater than 1': ";
        cyclicRuler(sentence + "an empty set", 1, 2);
        cyclicRuler(sentence + "one mark modulo 2", 1, 2, 1);
        cyclicRuler(sentence + "0 1 modulo 2: 1 in both orders", 0, 2, 0, 1);
        cyclicRuler(sentence + "0 1 modulo 3", 1, 3, 0, 1);
        cyclicRuler(sentence + "0 2 modulo 3", 1, 3, 0, 2);
        cyclicRuler(sentence + "0 2 modulo 4: 2 in both orders", 0, 4, 0, 2);
        cyclicRuler(sentence + "0 500 modulo 1000: 500 in both orders", 0, 1000, 0, 500);
        cyclicRuler(sentence + "0 499 modulo 1000", 1, 1000, 0, 499);
        cyclicRuler(sentence + "0 999 modulo 1000", 1, 1000, 0, 999);
        cyclicRuler(sentence + "a ruler, but around 1 is there twice", 0, 1000, 0, 1, 999);
        cyclicRuler(sentence + "998 of 0 998 is 2 around", 0, 1000, 0, 2, 998);
        cyclicRuler(sentence + "0 1 998", 1, 1000, 0, 1, 998);
        cyclicRuler(sentence + "0 1 3 modulo 7: each once", 1, 7, 0, 1, 3);
        cyclicRuler(sentence + "0 1 3 modulo 6: 3 in both orders", 0, 6, 0, 1, 3);
        cyclicRuler(sentence + "24 marks in a row", 0, 1000, row());
        Scene ruler = new Scene(x -> {
            x.extend(0, 24);
            x.setModulus(1000);
        });
        ruler.tells(sentence + "24 marks of Mian and Chowla, around", 0, x -> x.isCyclicRuler(0) ? 1 : 0);
        Scene greatest = new Scene(x -> x.ruzsa(23, 5, 0));
        greatest.tells(sentence + "22 marks modulo 506", 1, x -> x.isCyclicRuler(0) ? 1 : 0);
    }

    private static void cyclicRuler(String sentence, int due, int m, int... marks) {
        Scene.modulo(m, marks).tells(sentence, due, x -> x.isCyclicRuler(0) ? 1 : 0);
    }

    private static void index() {
        String sentence = "'all cyclic multiplicities are equal to l': ";
        index(sentence + "0 1 modulo 2", 2, 2, 0, 1);
        index(sentence + "0 1 modulo 3", 1, 3, 0, 1);
        index(sentence + "1 2 modulo 3", 1, 3, 1, 2);
        index(sentence + "0 1 3 modulo 7", 1, 7, 0, 1, 3);
        index(sentence + "0 2 6 modulo 7: up to the greatest mark", 1, 7, 0, 2, 6);
        index(sentence + "24 of 24", 24, 24, row());
        index(sentence + "24 of 25", 23, 25, row());
        index(sentence + "24 of 25, without 0", 23, 25, Scene.steps(24, 1, 1));
        index(sentence + "12 of 23", 6, 23, 0, 5, 7, 10, 11, 14, 15, 17, 19, 20, 21, 22);
    }

    private static void noIndex() {
        String sentence = "'if it has at least 2 marks', 'NONE if it is not a difference set': ";
        index(sentence + "an empty set", NONE, 31);
        index(sentence + "an empty set modulo 2", NONE, 2);
        index(sentence + "one mark", NONE, 31, 30);
        index(sentence + "one mark modulo 2", NONE, 2, 0);
        index(sentence + "one mark modulo 2", NONE, 2, 1);
        index(sentence + "only the last d differs: 0 1 modulo 4 has no 2", NONE, 4, 0, 1);
        index(sentence + "0 2 modulo 4 has no 1", NONE, 4, 0, 2);
        index(sentence + "0 1 3 modulo 8 has no 4", NONE, 8, 0, 1, 3);
        index(sentence + "0 1 4 6 modulo 14 has no 7", NONE, 14, 0, 1, 4, 6);
        index(sentence + "24 of 26", NONE, 26, row());
        index(sentence + "24 of 1000", NONE, 1000, row());
        String none = "'NONE is returned only if no exception applies': index of ";
        Scene.with(31).refuses(none + "one mark that is too great", Scene.STATE, x -> x.index(0));
        Scene.with(0, 1, 31).refuses(none + "three marks, one is too great", Scene.STATE, x -> x.index(0));
    }

    private static void index(String sentence, int due, int m, int... marks) {
        Scene.modulo(m, marks).tells(sentence, due, x -> x.index(0));
    }

    private static void mapRange() {
        Scene.busy().range("'t: 0 to 1000': map", Scene.ARGUMENT, 0, 1000, (x, t) -> x.map(0, t, 1, 1));
        Scene.busy().range("'s: 0 to 1000': map", Scene.ARGUMENT, 0, 1000, (x, s) -> x.map(0, 1, s, 1));
        Scene.fresh().range("'t: 0 to 1000': map", Scene.ARGUMENT, 0, 1000, (x, t) -> x.map(0, t, 1000, 0));
        Scene.fresh().range("'s: 0 to 1000': map", Scene.ARGUMENT, 0, 1000, (x, s) -> x.map(0, 1000, s, 0));
        Scene great = Scene.modulo(1000, Scene.steps(24, 976, 1));
        great.range("'t: 0 to 1000', 24 great marks: map", Scene.ARGUMENT, 0, 1000, (x, t) -> x.map(0, t, 1000, 1));
        great.range("'s: 0 to 1000', 24 great marks: map", Scene.ARGUMENT, 0, 1000, (x, s) -> x.map(0, 1000, s, 1));
        Scene.busy().refuses("both are wrong", Scene.ARGUMENT, x -> x.map(0, -1, 1001, 1));
        String first = "'the one that is listed first': a mark of 31, and ";
        Scene.with(31).refuses(first + "t", Scene.ARGUMENT, x -> x.map(0, 1001, 1, 1));
        Scene.with(31).refuses(first + "t", Scene.ARGUMENT, x -> x.map(0, -1, 1, 1));
        Scene.with(31).refuses(first + "s", Scene.ARGUMENT, x -> x.map(0, 1, 1001, 1));
        Scene.with(31).refuses(first + "s", Scene.ARGUMENT, x -> x.map(0, 1, -1, 1));
        Scene.modulo(2, 0, 1).answers("t and s may be as great as the modulus", 1, x -> x.map(0, 2, 2, 1));
    }

    private static void mapWraps() {
        String sentence = "'all (t * a + s) modulo m': ";
        Scene.with(30).makes(sentence + "m - 1 stays", 1, x -> x.map(0, 1, 0, 1), 1, 30);
        Scene.with(30).makes(sentence + "m becomes 0", 1, x -> x.map(0, 1, 1, 1), 1, 0);
        Scene.with(30).makes(sentence + "2 m - 1", 1, x -> x.map(0, 1, 31, 1), 1, 30);
        Scene.with(30).makes(sentence + "many times around", 1, x -> x.map(0, 1, 1000, 1), 1, 7);
        Scene.with(0, 30).makes(sentence + "the order is new", 2, x -> x.map(0, 1, 1, 0), 0, 0, 1);
        Scene.with(0, 1).makes(sentence + "the order is new", 2, x -> x.map(0, 30, 0, 1), 1, 0, 30);
        Scene.modulo(1000, 999).makes(sentence + "the greatest numbers", 1, x -> x.map(0, 1000, 1000, 1), 1, 0);
        Scene.modulo(997, 996).makes(sentence + "great numbers", 1, x -> x.map(0, 999, 1000, 1), 1, 1);
        Scene.modulo(1000, 999).makes(sentence + "great numbers", 1, x -> x.map(0, 999, 999, 1), 1, 0);
        Scene.modulo(1000, 999).makes(sentence + "great numbers", 1, x -> x.map(0, 999, 998, 1), 1, 999);
        Scene.modulo(2, 0, 1).makes(sentence + "modulo 2", 2, x -> x.map(0, 1, 1, 1), 1, 0, 1);
        Scene.modulo(2, 1).makes(sentence + "modulo 2", 1, x -> x.map(0, 1, 1, 0), 0, 0);
        Scene.modulo(24, row()).makes(sentence + "24 marks", 24, x -> x.map(0, 23, 1000, 3), 3, row());
        Scene.modulo(48, row()).makes(sentence + "24 marks", 24, x -> x.map(0, 1, 24, 0), 0, Scene.steps(24, 24, 1));
    }

    private static void mapEqualNumbers() {
        String sentence = "'equal numbers become one mark': ";
        Scene.modulo(1000, row()).makes(sentence + "24 of them", 1, x -> x.map(0, 0, 0, 1), 1, 0);
        Scene.modulo(1000, row()).makes(sentence + "24 of them", 1, x -> x.map(0, 0, 999, 1), 1, 999);
        Scene.modulo(1000, row()).makes(sentence + "24 of them", 1, x -> x.map(0, 1000, 1000, 0), 0, 0);
        Scene.modulo(24, row()).makes(sentence + "12 pairs", 12, x -> x.map(0, 2, 1, 1), 1, Scene.steps(12, 1, 2));
        Scene.modulo(24, row()).makes(sentence + "two of 12", 2, x -> x.map(0, 12, 12, 1), 1, 0, 12);
        Scene.modulo(24, row()).makes(sentence + "three of 8", 3, x -> x.map(0, 1000, 0, 1), 1, 0, 8, 16);
        Scene.modulo(2, 0, 1).makes(sentence + "modulo 2", 1, x -> x.map(0, 2, 1, 1), 1, 1);
        Scene.busy().makes("an empty set", 0, x -> x.map(3, 1000, 1000, 0), 0);
        Scene.busy().makes("an empty set, t and s are 0", 0, x -> x.map(3, 0, 0, 0), 0);
        Scene.busy().savesUnchanged("an empty set onto itself", 0, x -> x.map(3, 5, 5, 3));
        Scene.busy().makes("one mark", 1, x -> x.map(2, 0, 0, 3), 3, 0);
    }

    private static void complement() {
        String sentence = "'all numbers from 0 to m - 1 that are not marks of a set': ";
        Scene.modulo(2).makes(sentence + "none of 2", 2, x -> x.complement(0, 1), 1, 0, 1);
        Scene.modulo(2, 0).makes(sentence + "0 of 2", 1, x -> x.complement(0, 1), 1, 1);
        Scene.modulo(2, 1).makes(sentence + "1 of 2", 1, x -> x.complement(0, 0), 0, 0);
        Scene.modulo(2, 0, 1).makes(sentence + "0 1 of 2", 0, x -> x.complement(0, 1), 1);
        Scene.modulo(3, 1).makes(sentence + "1 of 3", 2, x -> x.complement(0, 1), 1, 0, 2);
        Scene.modulo(25, 0).makes(sentence + "0 of 25", 24, x -> x.complement(0, 1), 1, Scene.steps(24, 1, 1));
        Scene.modulo(25, 24).makes(sentence + "24 of 25", 24, x -> x.complement(0, 0), 0, row());
        Scene.modulo(24, row()).makes(sentence + "all of 24", 0, x -> x.complement(0, 0), 0);
    }

    private static void complementFull() {
        String sentence = "'or the result would have more than 24 marks': ";
        Scene.modulo(24).makes(sentence + "24 of none", 24, x -> x.complement(0, 1), 1, row());
        Scene.modulo(25).refuses(sentence + "25 of none", Scene.STATE, x -> x.complement(0, 1));
        Scene.modulo(25).refuses(sentence + "25 of none", Scene.STATE, x -> x.complement(0, 0));
        Scene.modulo(26, 5).refuses(sentence + "25 of one", Scene.STATE, x -> x.complement(0, 1));
        Scene.modulo(47, row()).saves(sentence + "23 of 24", 23, x -> x.complement(0, 1));
        Scene full = Scene.modulo(48, row());
        full.makes(sentence + "24 of 24", 24, x -> x.complement(0, 1), 1, Scene.steps(24, 24, 1));
        full.makes(sentence + "24 of 24", 24, x -> x.complement(0, 0), 0, Scene.steps(24, 24, 1));
        Scene.modulo(49, row()).refuses(sentence + "25 of 24", Scene.STATE, x -> x.complement(0, 1));
        Scene.modulo(1000, row()).refuses(sentence + "976 of 24", Scene.STATE, x -> x.complement(0, 1));
        Scene.modulo(1000).refuses(sentence + "1000 of none", Scene.STATE, x -> x.complement(0, 1));
        Scene.with(Scene.steps(7, 0, 5)).saves(sentence + "24 of 7, the modulus 31", 24, x -> x.complement(0, 1));
        Scene.with(Scene.steps(6, 0, 5)).refuses(sentence + "25 of 6", Scene.STATE, x -> x.complement(0, 1));
        Scene.with(2000).refuses("both are so", Scene.STATE, x -> x.complement(0, 1));
    }
}
