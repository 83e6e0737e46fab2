/** The boundaries that promises 9 to 13 and 'DIFFERENCES' name; each case begins with the sentence that it is about. */
public final class DifferencesEdgesTest {
    public static void main(String[] args) {
        multiplicityRange();
        multiplicity();
        isRuler();
        rulerByOnePair();
        completeUpTo();
        differences();
        familyRange();
        family();
        familyOfEdges();
        Check.end("DifferencesEdgesTest");
    }

    private static Scene row() {
        return Scene.with(Scene.steps(24, 0, 1));
    }

    private static Scene longRow() {
        return Scene.with(Scene.steps(24, 44, 85));
    }

    /** The first 24 marks of Mian and Chowla: the 276 differences are all different. */
    private static Scene longRuler() {
        return new Scene(x -> x.extend(0, 24));
    }

    private static void multiplicityRange() {
        String sentence = "'d: 1 to 2000': multiplicity";
        Scene.busy().range(sentence, Scene.ARGUMENT, 1, 2000, (x, d) -> x.multiplicity(0, d));
        Scene.fresh().range(sentence + " in an empty set", Scene.ARGUMENT, 1, 2000, (x, d) -> x.multiplicity(0, d));
        row().range(sentence + " in 24 marks", Scene.ARGUMENT, 1, 2000, (x, d) -> x.multiplicity(0, d));
        Scene.busy().refuses(sentence + ", -1 is 1 backwards", Scene.ARGUMENT, x -> x.multiplicity(0, -1));
    }

    private static void multiplicity() {
        String sentence = "'the number of pairs of marks whose difference is d': ";
        Scene.fresh().tells(sentence + "an empty set, 1", 0, x -> x.multiplicity(0, 1));
        Scene.fresh().tells(sentence + "an empty set, 2000", 0, x -> x.multiplicity(0, 2000));
        Scene.with(5).tells(sentence + "one mark, 5", 0, x -> x.multiplicity(0, 5));
        Scene.with(2000).tells(sentence + "one mark, 2000", 0, x -> x.multiplicity(0, 2000));
        Scene.with(0, 2000).tells(sentence + "0 2000, 2000", 1, x -> x.multiplicity(0, 2000));
        Scene.with(0, 2000).tells(sentence + "0 2000, 1999", 0, x -> x.multiplicity(0, 1999));
        Scene.with(0, 1999).tells(sentence + "0 1999, 2000", 0, x -> x.multiplicity(0, 2000));
        Scene.with(1999, 2000).tells(sentence + "1999 2000, 1", 1, x -> x.multiplicity(0, 1));
        row().tells(sentence + "0 to 23, 1", 23, x -> x.multiplicity(0, 1));
        row().tells(sentence + "0 to 23, 12", 12, x -> x.multiplicity(0, 12));
        row().tells(sentence + "0 to 23, 23", 1, x -> x.multiplicity(0, 23));
        row().tells(sentence + "0 to 23, 24", 0, x -> x.multiplicity(0, 24));
        longRow().tells(sentence + "24 marks 85 apart, 85", 23, x -> x.multiplicity(0, 85));
        longRow().tells(sentence + "24 marks 85 apart, 1955", 1, x -> x.multiplicity(0, 1955));
        Scene.modulo(2, 0, 3).tells("the modulus has no part in it", 1, x -> x.multiplicity(0, 3));
    }

    private static void isRuler() {
        String sentence = "'a ruler if no multiplicity is greater than 1': ";
        ruler(sentence + "an empty set", 1);
        ruler(sentence + "one mark", 1, 2000);
        ruler(sentence + "two marks", 1, 0, 1);
        ruler(sentence + "two marks far apart", 1, 0, 2000);
        ruler(sentence + "0 1 2", 0, 0, 1, 2);
        ruler(sentence + "0 1 3", 1, 0, 1, 3);
        ruler(sentence + "1000 twice", 0, 0, 1000, 2000);
        ruler(sentence + "999 and 1001", 1, 0, 999, 2000);
        ruler(sentence + "1 at both ends", 0, 0, 1, 1999, 2000);
        ruler(sentence + "1 and 2 at the ends", 1, 0, 1, 1998, 2000);
        ruler(sentence + "pairs across each other: 5 twice", 0, 0, 2, 5, 7);
        row().tells(sentence + "24 marks in a row", 0, x -> x.isRuler(0) ? 1 : 0);
        longRuler().tells(sentence + "24 marks of Mian and Chowla", 1, x -> x.isRuler(0) ? 1 : 0);
        Scene.modulo(4, 0, 1, 3).tells("the modulus has no part in it", 1, x -> x.isRuler(0) ? 1 : 0);
    }

    private static void ruler(String sentence, int due, int... marks) {
        Scene.with(marks).tells(sentence, due, x -> x.isRuler(0) ? 1 : 0);
    }

    /** 24 marks of which just one pair repeats a difference. */
    private static void rulerByOnePair() {
        String sentence = "'no multiplicity is greater than 1': one pair of 24 marks, ";
        Scene last = new Scene(x -> {
            x.extend(0, 23);
            x.add(0, x.mark(0, 22) + 1);
        });
        last.tells(sentence + "1 twice", 2, x -> x.multiplicity(0, 1));
        last.tells(sentence + "no ruler", 0, x -> x.isRuler(0) ? 1 : 0);
    }

    private static void completeUpTo() {
        String sentence = "'the greatest n for which a set is complete up to n': ";
        complete(sentence + "an empty set", 0);
        complete(sentence + "one mark", 0, 1);
        complete(sentence + "0 1", 1, 0, 1);
        complete(sentence + "1999 2000", 1, 1999, 2000);
        complete(sentence + "0 2: 1 is missing", 0, 0, 2);
        complete(sentence + "0 2000: 1 is missing", 0, 0, 2000);
        complete(sentence + "0 1 4: 2 is missing", 1, 0, 1, 4);
        complete(sentence + "0 1 3", 3, 0, 1, 3);
        complete(sentence + "0 2 4 6: 1 is missing", 0, 0, 2, 4, 6);
        complete(sentence + "0 1 2000: 1999 is no help", 1, 0, 1, 2000);
        row().tells(sentence + "24 marks in a row", 23, x -> x.completeUpTo(0));
        complete(sentence + "0 to 10 and each 11th up to 76", 76, comb(11, 6));
        complete(sentence + "24 marks, 0 to 11 and each 12th up to 155", 155, comb(12, 12));
    }

    /** 0 to low - 1, and then high marks that are low apart: all differences up to the length. */
    private static int[] comb(int low, int high) {
        int[] marks = new int[low + high];
        for (int i = 0; i < low; i++) {
            marks[i] = i;
        }
        for (int i = 0; i < high; i++) {
            marks[low + i] = low * (i + 2) - 1;
        }
        return marks;
    }

    private static void complete(String sentence, int due, int... marks) {
        Scene.with(marks).tells(sentence, due, x -> x.completeUpTo(0));
    }

    private static void differences() {
        String sentence = "'the number of d with a multiplicity of at least 1': ";
        Scene.fresh().tells(sentence + "an empty set", 0, x -> x.differences(0));
        Scene.with(2000).tells(sentence + "one mark", 0, x -> x.differences(0));
        Scene.with(0, 2000).tells(sentence + "two marks", 1, x -> x.differences(0));
        Scene.with(0, 1, 2).tells(sentence + "0 1 2", 2, x -> x.differences(0));
        Scene.with(0, 1, 1999, 2000).tells(sentence + "0 1 1999 2000", 4, x -> x.differences(0));
        row().tells(sentence + "24 marks in a row", 23, x -> x.differences(0));
        longRow().tells(sentence + "24 marks 85 apart", 23, x -> x.differences(0));
        longRuler().tells(sentence + "a ruler with 24 marks", 276, x -> x.differences(0));
    }

    private static void familyRange() {
        String sentence = "'a bit mask of sets, 0 to 15': isFamily";
        Scene.busy().range(sentence, Scene.ARGUMENT, 0, 15, (x, sets) -> x.isFamily(sets) ? 1 : 0);
        Scene.fresh().range(sentence, Scene.ARGUMENT, 0, 15, (x, sets) -> x.isFamily(sets) ? 1 : 0);
        Scene.busy().refuses(sentence + ", bits above", Scene.ARGUMENT, x -> x.isFamily(17) ? 1 : 0);
        Scene.busy().tells("'(true for no sets)'", 1, x -> x.isFamily(0) ? 1 : 0);
        Scene.fresh().tells("'(true for no sets)'", 1, x -> x.isFamily(0) ? 1 : 0);
        Scene allBad = new Scene(x -> {
            for (int set = 0; set < 4; set++) {
                Check.put(x, set, 0, 1, 2);
            }
        });
        allBad.tells("'(true for no sets)', no set is a ruler", 1, x -> x.isFamily(0) ? 1 : 0);
        for (int mask = 1; mask < 16; mask++) {
            int sets = mask;
            allBad.tells("no set is a ruler, the mask " + mask, 0, x -> x.isFamily(sets) ? 1 : 0);
            Scene.fresh().tells("empty sets, the mask " + mask, 1, x -> x.isFamily(sets) ? 1 : 0);
        }
    }

    /** Each bit is the set with its number: all are rulers, and only sets a and b share a difference. */
    private static void family() {
        String sentence = "'the sum of the multiplicities of d over all these sets is at most 1': ";
        for (int a = 0; a < 4; a++) {
            for (int b = 0; b < a; b++) {
                int one = a;
                int other = b;
                Scene scene = new Scene(x -> {
                    for (int set = 0; set < 4; set++) {
                        Check.put(x, set, 0, set == other ? 10 + one : 10 + set);
                    }
                });
                for (int mask = 0; mask < 16; mask++) {
                    int sets = mask;
                    boolean both = (mask >> a & 1) == 1 && (mask >> b & 1) == 1;
                    scene.answers(sentence + a + " and " + b + " share one, the mask " + mask, both ? 0 : 1,
                            x -> x.isFamily(sets) ? 1 : 0);
                }
            }
        }
        for (int bad = 0; bad < 4; bad++) {
            int here = bad;
            Scene scene = new Scene(x -> Check.put(x, here, 5, 9, 13));
            for (int mask = 0; mask < 16; mask++) {
                int sets = mask;
                scene.answers(sentence + "set " + bad + " is no ruler, the mask " + mask,
                        (mask >> bad & 1) == 1 ? 0 : 1, x -> x.isFamily(sets) ? 1 : 0);
            }
        }
    }

    private static void familyOfEdges() {
        String sentence = "'for each d of at least 1': ";
        pair(sentence + "1 in both sets", 0, new int[] {0, 1}, new int[] {1999, 2000});
        pair(sentence + "2000 in both sets", 0, new int[] {0, 2000}, new int[] {0, 2000});
        pair(sentence + "1999 and 2000", 1, new int[] {0, 1999}, new int[] {0, 2000});
        pair(sentence + "64 in both sets", 0, new int[] {0, 64}, new int[] {1, 65});
        pair(sentence + "63 and 64", 1, new int[] {0, 63}, new int[] {1, 65});
        pair(sentence + "the same mark, but one mark has no difference", 1, new int[] {5}, new int[] {5});
        pair(sentence + "one mark and a set", 1, new int[] {5}, new int[] {0, 5});
        Scene full = new Scene(x -> {
            x.extend(0, 24);
            x.copy(0, 3);
        });
        full.tells(sentence + "24 marks alone", 1, x -> x.isFamily(8) ? 1 : 0);
        full.tells(sentence + "24 marks twice", 0, x -> x.isFamily(9) ? 1 : 0);
    }

    private static void pair(String sentence, int due, int[] first, int[] second) {
        new Scene(x -> {
            Check.put(x, 0, first);
            Check.put(x, 3, second);
        }).tells(sentence, due, x -> x.isFamily(9) ? 1 : 0);
    }
}
