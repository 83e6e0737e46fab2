import java.util.ArrayDeque;
import java.util.ArrayList;
import java.util.Arrays;
import java.util.Deque;
import java.util.HashMap;
import java.util.List;
import java.util.Map;
import java.util.TreeSet;

/** The document word by word, without a thought of speed: what the workbench is compared with. */
final class Model {
    private static final Map<String, List<Integer>> FOUND = new HashMap<>();

    private List<TreeSet<Integer>> sets = new ArrayList<>();
    private int modulus = 31;
    private final Deque<List<TreeSet<Integer>>> savedSets = new ArrayDeque<>();
    private final Deque<Integer> savedModuli = new ArrayDeque<>();

    Model() {
        for (int i = 0; i < 4; i++) {
            sets.add(new TreeSet<>());
        }
    }

    private static void index(boolean bad) {
        if (bad) {
            throw new IndexOutOfBoundsException();
        }
    }

    private static void argument(boolean bad) {
        if (bad) {
            throw new IllegalArgumentException();
        }
    }

    private static void state(boolean bad) {
        if (bad) {
            throw new IllegalStateException();
        }
    }

    private static boolean noSet(int set) {
        return set < 0 || set > 3;
    }

    private boolean tooGreat(int set) {
        return !sets.get(set).isEmpty() && sets.get(set).last() >= modulus;
    }

    private void save() {
        List<TreeSet<Integer>> copies = new ArrayList<>();
        for (TreeSet<Integer> set : sets) {
            copies.add(new TreeSet<>(set));
        }
        savedSets.push(copies);
        savedModuli.push(modulus);
        if (savedSets.size() > 4) {
            savedSets.removeLast();
            savedModuli.removeLast();
        }
    }

    private int put(int to, Iterable<Integer> marks) {
        TreeSet<Integer> fresh = new TreeSet<>();
        for (int mark : marks) {
            fresh.add(mark);
        }
        save();
        sets.set(to, fresh);
        return fresh.size();
    }

    int add(int set, int mark) {
        index(noSet(set));
        argument(mark < 0 || mark > 2000);
        state(sets.get(set).contains(mark) || sets.get(set).size() == 24);
        save();
        sets.get(set).add(mark);
        return sets.get(set).headSet(mark).size();
    }

    int remove(int set, int mark) {
        index(noSet(set));
        state(!sets.get(set).contains(mark));
        save();
        sets.get(set).remove(mark);
        return sets.get(set).size();
    }

    int clear(int set) {
        index(noSet(set));
        save();
        int had = sets.get(set).size();
        sets.get(set).clear();
        return had;
    }

    int copy(int set, int to) {
        index(noSet(set) || noSet(to));
        return put(to, sets.get(set));
    }

    int size(int set) {
        index(noSet(set));
        return sets.get(set).size();
    }

    int mark(int set, int number) {
        index(noSet(set) || number < 0 || number >= sets.get(set).size());
        return new ArrayList<>(sets.get(set)).get(number);
    }

    int length(int set) {
        index(noSet(set));
        return lengthOf(sets.get(set));
    }

    private static int lengthOf(TreeSet<Integer> set) {
        return set.size() < 2 ? 0 : set.last() - set.first();
    }

    private static int multiplicityIn(Iterable<Integer> set, int d) {
        int pairs = 0;
        for (int a : set) {
            for (int b : set) {
                pairs += a - b == d ? 1 : 0;
            }
        }
        return pairs;
    }

    /** Element d is the multiplicity of d. */
    private static int[] multiplicities(Iterable<Integer> set) {
        int[] counts = new int[2001];
        for (int a : set) {
            for (int b : set) {
                if (a > b) {
                    counts[a - b]++;
                }
            }
        }
        return counts;
    }

    int multiplicity(int set, int d) {
        index(noSet(set));
        argument(d < 1 || d > 2000);
        return multiplicityIn(sets.get(set), d);
    }

    private static boolean rules(Iterable<Integer> set) {
        return Arrays.stream(multiplicities(set)).allMatch(c -> c <= 1);
    }

    private static int completeIn(Iterable<Integer> set) {
        int[] counts = multiplicities(set);
        int n = 0;
        while (n + 1 <= 2000 && counts[n + 1] >= 1) {
            n++;
        }
        return n;
    }

    boolean isRuler(int set) {
        index(noSet(set));
        return rules(sets.get(set));
    }

    int completeUpTo(int set) {
        index(noSet(set));
        return completeIn(sets.get(set));
    }

    int differences(int set) {
        index(noSet(set));
        return (int) Arrays.stream(multiplicities(sets.get(set))).filter(c -> c >= 1).count();
    }

    boolean isFamily(int mask) {
        argument(mask < 0 || mask > 15);
        int[] sums = new int[2001];
        for (int set = 0; set < 4; set++) {
            if ((mask & 1 << set) != 0) {
                int[] counts = multiplicities(sets.get(set));
                for (int d = 1; d <= 2000; d++) {
                    sums[d] += counts[d];
                }
            }
        }
        return Arrays.stream(sums).allMatch(c -> c <= 1);
    }

    int setModulus(int m) {
        argument(m < 2 || m > 1000);
        save();
        int previous = modulus;
        modulus = m;
        return previous;
    }

    /** Element d is the cyclic multiplicity of d. */
    private static int[] cyclic(Iterable<Integer> set, int m) {
        int[] counts = new int[m];
        for (int a : set) {
            for (int b : set) {
                if (a != b) {
                    counts[Math.floorMod(a - b, m)]++;
                }
            }
        }
        return counts;
    }

    int cyclicMultiplicity(int set, int d) {
        index(noSet(set));
        argument(d < 1 || d > modulus - 1);
        state(tooGreat(set));
        return cyclic(sets.get(set), modulus)[d];
    }

    boolean isCyclicRuler(int set) {
        index(noSet(set));
        state(tooGreat(set));
        return Arrays.stream(cyclic(sets.get(set), modulus)).allMatch(c -> c <= 1);
    }

    private static int indexIn(List<Integer> set, int m) {
        int[] counts = cyclic(set, m);
        for (int d = 1; d < m; d++) {
            if (counts[d] != counts[1]) {
                return -1;
            }
        }
        return set.size() < 2 ? -1 : counts[1];
    }

    int index(int set) {
        index(noSet(set));
        state(tooGreat(set));
        return indexIn(new ArrayList<>(sets.get(set)), modulus);
    }

    int map(int set, int t, int s, int to) {
        index(noSet(set) || noSet(to));
        argument(t < 0 || t > 1000 || s < 0 || s > 1000);
        state(tooGreat(set));
        TreeSet<Integer> fresh = new TreeSet<>();
        for (int a : sets.get(set)) {
            fresh.add((t * a + s) % modulus);
        }
        return put(to, fresh);
    }

    int complement(int set, int to) {
        index(noSet(set) || noSet(to));
        state(tooGreat(set));
        TreeSet<Integer> fresh = new TreeSet<>();
        for (int a = 0; a < modulus; a++) {
            if (!sets.get(set).contains(a)) {
                fresh.add(a);
            }
        }
        state(fresh.size() > 24);
        return put(to, fresh);
    }

    int reflect(int set, int to) {
        index(noSet(set) || noSet(to));
        TreeSet<Integer> fresh = new TreeSet<>();
        for (int a : sets.get(set)) {
            fresh.add(sets.get(set).last() - a);
        }
        return put(to, fresh);
    }

    private static int gcd(int a, int b) {
        return b == 0 ? a : gcd(b, a % b);
    }

    private static int[] marksOf(TreeSet<Integer> set) {
        return set.stream().mapToInt(a -> a).toArray();
    }

    private boolean isMultiplier(int[] marks, int t) {
        boolean[] turned = new boolean[modulus];
        for (int a : marks) {
            turned[t * a % modulus] = true;
        }
        for (int s = 0; s < modulus; s++) {
            boolean equal = true;
            for (int i = 0; i < marks.length && equal; i++) {
                equal = turned[(marks[i] + s) % modulus];
            }
            if (equal) {
                return true;
            }
        }
        return false;
    }

    int multipliers(int set) {
        index(noSet(set));
        state(tooGreat(set));
        int[] marks = marksOf(sets.get(set));
        int found = 0;
        for (int t = 1; t < modulus; t++) {
            found += gcd(t, modulus) == 1 && isMultiplier(marks, t) ? 1 : 0;
        }
        return found;
    }

    int canonical(int set, int to) {
        index(noSet(set) || noSet(to));
        state(sets.get(set).isEmpty() || tooGreat(set));
        int[] marks = marksOf(sets.get(set));
        int[] best = null;
        int[] here = new int[marks.length];
        for (int t = 1; t < modulus; t++) {
            for (int s = 0; s < modulus && gcd(t, modulus) == 1; s++) {
                for (int i = 0; i < marks.length; i++) {
                    here[i] = (t * marks[i] + s) % modulus;
                }
                Arrays.sort(here);
                if (best == null || Arrays.compare(here, best) < 0) {
                    best = here.clone();
                }
            }
        }
        List<Integer> fresh = new ArrayList<>();
        for (int a : best) {
            fresh.add(a);
        }
        return put(to, fresh);
    }

    private static boolean noPrime(int p) {
        return !List.of(3, 5, 7, 11, 13, 17, 19, 23).contains(p);
    }

    int erdosTuran(int p, int to) {
        index(noSet(to));
        argument(noPrime(p));
        List<Integer> fresh = new ArrayList<>();
        for (int k = 0; k <= p - 1; k++) {
            fresh.add(2 * p * k + k * k % p);
        }
        put(to, fresh);
        return length(to);
    }

    int ruzsa(int p, int g, int to) {
        index(noSet(to));
        argument(noPrime(p));
        argument(g < 2 || g > p - 1);
        TreeSet<Integer> powers = new TreeSet<>();
        List<Integer> fresh = new ArrayList<>();
        int power = 1;
        for (int k = 1; k <= p - 1; k++) {
            power = power * g % p;
            powers.add(power);
            fresh.add((p * k + (p - 1) * power) % (p * (p - 1)));
        }
        argument(powers.size() != p - 1);
        put(to, fresh);
        modulus = p * (p - 1);
        return length(to);
    }

    int residues(int p, int to) {
        index(noSet(to));
        argument(noPrime(p));
        List<Integer> fresh = new ArrayList<>();
        for (int k = 1; k <= p - 1; k++) {
            fresh.add(k * k % p);
        }
        put(to, fresh);
        modulus = p;
        return size(to);
    }

    int extend(int set, int n) {
        index(noSet(set));
        argument(n < 1 || n > 24);
        state(!rules(sets.get(set)) || sets.get(set).size() > n);
        TreeSet<Integer> fresh = new TreeSet<>(sets.get(set));
        if (fresh.isEmpty()) {
            fresh.add(0);
        }
        while (fresh.size() < n) {
            int next = fresh.last() + 1;
            while (next <= 2000 && !rulesWith(fresh, next)) {
                next++;
            }
            state(next > 2000);
            fresh.add(next);
        }
        put(set, fresh);
        return fresh.last();
    }

    private static boolean rulesWith(TreeSet<Integer> set, int next) {
        TreeSet<Integer> more = new TreeSet<>(set);
        more.add(next);
        return rules(more);
    }

    /** What a search looks for. */
    private interface Wanted {
        boolean is(List<Integer> marks);
    }

    /** The first list that is wanted, of n marks from the last one up to top, in lexicographic order. */
    private static boolean first(List<Integer> marks, int n, int top, Wanted wanted) {
        if (marks.size() == n) {
            return wanted.is(marks);
        }
        for (int next = marks.get(marks.size() - 1) + 1; next <= top; next++) {
            marks.add(next);
            if (first(marks, n, top, wanted)) {
                return true;
            }
            marks.remove(marks.size() - 1);
        }
        return false;
    }

    private static List<Integer> search(int n, int top, Wanted wanted) {
        List<Integer> marks = new ArrayList<>(List.of(0));
        return first(marks, n, top, wanted) ? marks : null;
    }

    private static boolean rulesShort(List<Integer> marks) {
        long seen = 0;
        for (int i = 0; i < marks.size(); i++) {
            for (int j = 0; j < i; j++) {
                long bit = 1L << marks.get(i) - marks.get(j);
                if ((seen & bit) != 0) {
                    return false;
                }
                seen |= bit;
            }
        }
        return true;
    }

    private static boolean completeShort(List<Integer> marks, int n) {
        long seen = 1;
        for (int a : marks) {
            for (int b : marks) {
                if (a > b) {
                    seen |= 1L << a - b;
                }
            }
        }
        return seen == (1L << n + 1) - 1;
    }

    private static List<Integer> findOptimal(int n) {
        for (int length = 0;; length++) {
            int end = length;
            List<Integer> marks = search(n, length, m -> m.get(n - 1) == end && rulesShort(m));
            if (marks != null) {
                return marks;
            }
        }
    }

    private static List<Integer> findSparse(int n) {
        for (int count = 2;; count++) {
            int most = count;
            List<Integer> marks = search(count, n, m -> m.get(most - 1) == n && completeShort(m, n));
            if (marks != null) {
                return marks;
            }
        }
    }

    private static List<Integer> findDifferenceSet(int v, int k) {
        List<Integer> marks = search(k, v - 1, m -> indexIn(m, v) != -1);
        return marks == null ? List.of() : marks;
    }

    int optimal(int n, int to) {
        index(noSet(to));
        argument(n < 1 || n > 7);
        put(to, FOUND.computeIfAbsent("optimal " + n, key -> findOptimal(n)));
        return length(to);
    }

    int sparse(int n, int to) {
        index(noSet(to));
        argument(n < 1 || n > 20);
        return put(to, FOUND.computeIfAbsent("sparse " + n, key -> findSparse(n)));
    }

    int firstDifferenceSet(int v, int k, int to) {
        index(noSet(to));
        argument(v < 3 || v > 31 || k < 2 || k > 6 || k >= v);
        List<Integer> marks = FOUND.computeIfAbsent("first " + v + " " + k, key -> findDifferenceSet(v, k));
        if (marks.isEmpty()) {
            return -1;
        }
        put(to, marks);
        modulus = v;
        return index(to);
    }

    int undo() {
        state(savedSets.isEmpty());
        sets = savedSets.pop();
        modulus = savedModuli.pop();
        return savedSets.size();
    }

    long digest() {
        List<Long> values = new ArrayList<>(List.of((long) savedSets.size(), (long) modulus));
        for (int set = 0; set < 4; set++) {
            values.add((long) size(set));
            for (int a : sets.get(set)) {
                values.add((long) a);
            }
            values.add(isRuler(set) ? 1L : 0L);
            values.add((long) completeUpTo(set));
            values.add((long) differences(set));
            if (!tooGreat(set)) {
                values.add((long) index(set));
                values.add((long) multipliers(set));
            }
        }
        for (int mask = 0; mask < 16; mask++) {
            values.add(isFamily(mask) ? 1L : 0L);
        }
        long h = 12467;
        for (long value : values) {
            h = 31 * h + value;
        }
        return h;
    }
}
