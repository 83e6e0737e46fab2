import java.util.Arrays;

/** The boundaries that promises 20 to 22 name: reflect, multipliers, canonical. */
public final class FormsEdgesTest {
    public static void main(String[] args) {
        reflect();
        multipliersOfFew();
        multipliersOfMore();
        canonicalOfFew();
        canonicalByTheLastChoice();
        canonicalOfMany();
        canonicalOfEveryTurn();
        canonicalRefused();
        Check.end("FormsEdgesTest");
    }

    private static int[] row() {
        return Scene.steps(24, 0, 1);
    }

    private static void reflect() {
        String sentence = "'all (greatest mark - a)': ";
        Scene.busy().makes(sentence + "an empty set", 0, x -> x.reflect(3, 0), 0);
        Scene.busy().savesUnchanged(sentence + "an empty set onto itself", 0, x -> x.reflect(3, 3));
        Scene.busy().makes(sentence + "one mark", 1, x -> x.reflect(2, 0), 0, 0);
        Scene.with(2000).makes(sentence + "one mark onto itself", 1, x -> x.reflect(0, 0), 0, 0);
        Scene.with(0).savesUnchanged(sentence + "the mark 0", 1, x -> x.reflect(0, 0));
        Scene.with(0, 2000).savesUnchanged(sentence + "0 2000", 2, x -> x.reflect(0, 0));
        Scene.with(1, 2000).makes(sentence + "1 2000", 2, x -> x.reflect(0, 1), 1, 0, 1999);
        Scene.with(1999, 2000).makes(sentence + "1999 2000", 2, x -> x.reflect(0, 1), 1, 0, 1);
        Scene.with(0, 1, 2000).makes(sentence + "0 1 2000", 3, x -> x.reflect(0, 0), 0, 0, 1999, 2000);
        Scene full = Scene.with(Scene.steps(24, 1977, 1));
        full.makes(sentence + "24 marks", 24, x -> x.reflect(0, 3), 3, row());
        full.makes(sentence + "24 marks onto itself", 24, x -> x.reflect(0, 0), 0, row());
        Scene.modulo(2, 5, 9).makes("the modulus has no part in it", 2, x -> x.reflect(0, 1), 1, 0, 4);
    }

    private static void multipliers(String sentence, int due, int m, int... marks) {
        Scene.modulo(m, marks).tells(sentence, due, x -> x.multipliers(0));
    }

    private static void multipliersOfFew() {
        String sentence = "'a t from 1 to m - 1, coprime to m': ";
        Scene.fresh().tells(sentence + "an empty set modulo 31", 30, x -> x.multipliers(0));
        multipliers(sentence + "an empty set modulo 2", 1, 2);
        multipliers(sentence + "an empty set modulo 3", 2, 3);
        multipliers(sentence + "an empty set modulo 4", 2, 4);
        multipliers(sentence + "an empty set modulo 997", 996, 997);
        multipliers(sentence + "an empty set modulo 1000", 400, 1000);
        multipliers(sentence + "the mark 0 modulo 2", 1, 2, 0);
        multipliers(sentence + "the mark 1 modulo 2", 1, 2, 1);
        multipliers(sentence + "the mark 999 modulo 1000", 400, 1000, 999);
        multipliers(sentence + "the mark 996 modulo 997", 996, 997, 996);
        multipliers(sentence + "all of 2", 1, 2, 0, 1);
        multipliers(sentence + "all of 3", 2, 3, 0, 1, 2);
    }

    private static void multipliersOfMore() {
        String sentence = "'there is an s from 0 to m - 1': ";
        multipliers(sentence + "0 1 modulo 3: m - 1 with s = m - 1", 2, 3, 0, 1);
        multipliers(sentence + "0 1 modulo 1000: m - 1 with s = m - 1", 2, 1000, 0, 1);
        multipliers(sentence + "0 999 modulo 1000: m - 1 with s = 1", 2, 1000, 0, 999);
        multipliers(sentence + "998 999 modulo 1000", 2, 1000, 998, 999);
        multipliers(sentence + "0 500 modulo 1000: all with s = 0", 400, 1000, 0, 500);
        multipliers(sentence + "1 501 modulo 1000: all", 400, 1000, 1, 501);
        multipliers(sentence + "0 1 3 modulo 6: 1 alone", 1, 6, 0, 1, 3);
        multipliers(sentence + "0 1 3 modulo 7", 3, 7, 0, 1, 3);
        multipliers(sentence + "4 5 0 modulo 7: a shift of it", 3, 7, 4, 5, 0);
        multipliers(sentence + "3 4 6 modulo 7: a shift without 0", 3, 7, 3, 4, 6);
        multipliers(sentence + "24 of 24", 8, 24, row());
        multipliers(sentence + "24 of 25", 20, 25, row());
        multipliers(sentence + "24 in a row modulo 1000", 2, 1000, row());
        multipliers(sentence + "each 41st modulo 984", 320, 984, Scene.steps(24, 0, 41));
        multipliers(sentence + "each 41st modulo 984, shifted", 320, 984, Scene.steps(24, 40, 41));
        multipliers(sentence + "each 41st modulo 985", 2, 985, Scene.steps(24, 0, 41));
        multipliers(sentence + "the multiplicities are kept, the set is not", 2, 8, 0, 1, 3);
    }

    private static void canonical(String sentence, int m, int[] from, int... due) {
        Scene scene = Scene.modulo(m, from);
        scene.makes(sentence, from.length, x -> x.canonical(0, 1), 1, due);
        scene.makes(sentence + ", onto itself", from.length, x -> x.canonical(0, 0), 0, due);
        Scene again = Scene.modulo(m, due);
        again.savesUnchanged(sentence + ", again", due.length, x -> x.canonical(0, 0));
    }

    private static void canonicalOfFew() {
        String sentence = "'the lexicographically first one of all sets': ";
        canonical(sentence + "0 modulo 2", 2, new int[] {0}, 0);
        canonical(sentence + "1 modulo 2", 2, new int[] {1}, 0);
        canonical(sentence + "0 1 modulo 2", 2, new int[] {0, 1}, 0, 1);
        canonical(sentence + "2 modulo 3", 3, new int[] {2}, 0);
        canonical(sentence + "1 2 modulo 3", 3, new int[] {1, 2}, 0, 1);
        canonical(sentence + "999 modulo 1000", 1000, new int[] {999}, 0);
        canonical(sentence + "0 999 modulo 1000", 1000, new int[] {0, 999}, 0, 1);
        canonical(sentence + "0 998 modulo 1000", 1000, new int[] {0, 998}, 0, 2);
        canonical(sentence + "0 500 modulo 1000", 1000, new int[] {0, 500}, 0, 500);
        canonical(sentence + "499 999 modulo 1000", 1000, new int[] {499, 999}, 0, 500);
        canonical(sentence + "0 600 modulo 1000", 1000, new int[] {0, 600}, 0, 200);
        canonical(sentence + "24 of 24", 24, row(), row());
        canonical(sentence + "24 of 25, without 0", 25, Scene.steps(24, 1, 1), row());
        canonical(sentence + "24 of 25, without 12", 25,
                new int[] {0, 1, 2, 3, 4, 5, 6, 7, 8, 9, 10, 11, 13, 14, 15, 16, 17, 18, 19, 20, 21, 22, 23, 24}, row());
    }

    /** Modulo 6 only 1 and 5 are coprime: 0 1 3 and 0 2 3 are one form if m - 1 is tried, 1 2 4 if s = m - 1 is. */
    private static void canonicalByTheLastChoice() {
        String sentence = "'with t from 1 to m - 1 coprime to m and s from 0 to m - 1': ";
        canonical(sentence + "t = 1, s = 0", 6, new int[] {0, 1, 3}, 0, 1, 3);
        canonical(sentence + "t = 1, s = m - 1", 6, new int[] {1, 2, 4}, 0, 1, 3);
        canonical(sentence + "t = 1, s = 1", 6, new int[] {0, 2, 5}, 0, 1, 3);
        canonical(sentence + "t = m - 1, s = 3", 6, new int[] {0, 2, 3}, 0, 1, 3);
        canonical(sentence + "t = m - 1, s = 0", 6, new int[] {0, 3, 5}, 0, 1, 3);
        canonical(sentence + "t = m - 1, s = m - 1", 6, new int[] {2, 4, 5}, 0, 1, 3);
        canonical(sentence + "a t that is not coprime", 6, new int[] {0, 2, 4}, 0, 2, 4);
        canonical(sentence + "neither 1 nor m - 1", 7, new int[] {0, 2, 4, 5}, 0, 1, 2, 3);
        canonical(sentence + "neither 1 nor m - 1", 7, new int[] {0, 3, 5, 6}, 0, 1, 2, 4);
    }

    private static int gcd(int a, int b) {
        return b == 0 ? a : gcd(b, a % b);
    }

    /** All t and all s, as the document says it. */
    private static int[] firstForm(int m, int[] marks) {
        int[] best = null;
        for (int t = 1; t <= m - 1; t++) {
            for (int s = 0; s <= m - 1 && gcd(t, m) == 1; s++) {
                int[] here = new int[marks.length];
                for (int i = 0; i < marks.length; i++) {
                    here[i] = (t * marks[i] + s) % m;
                }
                Arrays.sort(here);
                best = best == null || Arrays.compare(here, best) < 0 ? here : best;
            }
        }
        return best;
    }

    private static void canonicalOfMany() {
        String sentence = "'the canonical form', 24 marks: ";
        int[] squares = new int[24];
        for (int i = 0; i < 24; i++) {
            squares[i] = 999 - i * i;
        }
        canonical(sentence + "squares modulo 1000", 1000, squares, firstForm(1000, squares));
        int[] ends = Scene.steps(24, 1, 41);
        ends[23] = 996;
        canonical(sentence + "each 41st but the last modulo 997", 997, ends, firstForm(997, ends));
        int[] pairs = new int[24];
        for (int i = 0; i < 24; i++) {
            pairs[i] = i / 2 * 60 + i % 2 * 7;
        }
        canonical(sentence + "twelve pairs modulo 720", 720, pairs, firstForm(720, pairs));
    }

    /** A set's shifts and reflections have its form, wherever its marks wrap around; the form is no reflection of itself. */
    private static void canonicalOfEveryTurn() {
        int[] form = row();
        form[23] = 24;
        everyTurn(1000, form);
        everyTurn(984, form);
        everyTurn(49, form);
        int[] runs = Scene.steps(24, 0, 1);
        for (int i = 12; i < 24; i++) {
            runs[i] = i == 23 ? 26 : i + 1;
        }
        everyTurn(997, runs);
        everyTurn(1000, runs);
        everyTurn(999, Scene.steps(24, 0, 1));
    }

    private static void everyTurn(int m, int[] form) {
        for (int mark : form) {
            for (int t : new int[] {1, m - 1}) {
                RulerWorkbench x = Scene.modulo(m, form).bench();
                x.map(0, t, (m - t) * mark % m, 1);
                x.canonical(1, 2);
                Check.marks("'the canonical form' of a turn by " + mark + ", " + t + " modulo " + m, x, 2, form);
            }
        }
    }

    private static void canonicalRefused() {
        String sentence = "'if the set is empty or has a mark that is not less than the modulus': ";
        Scene.fresh().refuses(sentence + "empty", Scene.STATE, x -> x.canonical(0, 1));
        Scene.fresh().refuses(sentence + "empty, onto itself", Scene.STATE, x -> x.canonical(0, 0));
        Scene.busy().refuses(sentence + "empty", Scene.STATE, x -> x.canonical(3, 0));
        Scene.modulo(2).refuses(sentence + "empty, modulo 2", Scene.STATE, x -> x.canonical(0, 1));
        Scene.with(31).refuses(sentence + "31", Scene.STATE, x -> x.canonical(0, 1));
        Scene.with(30).makes("30 is less", 1, x -> x.canonical(0, 1), 1, 0);
        Scene.busy().makes("the empty set may be replaced", 4, x -> x.canonical(0, 3), 3, 0, 1, 3, 9);
    }
}
