import java.util.Arrays;

/** A workbench for sets of integers with distinct differences; README.md says how to use it. */
public final class RulerWorkbench {
    public static final int NONE = -1;

    private static final int SETS = 4;
    private static final int MOST_MARKS = 24;
    private static final int TOP_MARK = 2000;
    private static final int FIRST_MODULUS = 31;
    private static final int LEAST_MODULUS = 2;
    private static final int TOP_MODULUS = 1000;
    private static final int TOP_FACTOR = 1000;
    private static final int LEAST_PRIME = 3;
    private static final int TOP_PRIME = 23;
    private static final int MOST_OPTIMAL = 7;
    private static final int TOP_SPARSE = 20;
    private static final int LEAST_ORDER = 3;
    private static final int TOP_ORDER = 31;
    private static final int LEAST_BLOCK = 2;
    private static final int TOP_BLOCK = 6;
    private static final int UNDO_STATES = 4;
    private static final int ALL_SETS = (1 << SETS) - 1;
    private static final int WORD_BITS = 64;
    private static final int ROW_WORDS = TOP_MARK / WORD_BITS + 1;
    // The searches hold differences as the bits of one long.
    private static final int TOP_LENGTH = WORD_BITS - 1;
    // Euclid's algorithm takes at most 15 steps below 1000.
    private static final int EUCLID_STEPS = 64;
    private static final long DIGEST_START = 12467L;
    private static final long DIGEST_FACTOR = 31L;

    private final State now;
    private final UndoStack saved;
    // A result is built here first, so that a call that throws changes nothing.
    private final MarkSet made;
    private final MarkSet turned;
    private final Gaps gaps;
    private final Gaps best;
    private final BitRow row;
    private final Spans[] spans;
    private final Tally tally;
    private final Units units;

    public RulerWorkbench() {
        now = new State();
        saved = new UndoStack();
        made = new MarkSet();
        turned = new MarkSet();
        gaps = new Gaps();
        best = new Gaps();
        row = new BitRow();
        spans = new Spans[SETS];
        for (int i = 0; i < SETS; i++) {
            spans[i] = new Spans();
        }
        tally = new Tally();
        units = new Units();
    }

    // ---- sets

    public int add(int set, int mark)
            throws IndexOutOfBoundsException, IllegalArgumentException, IllegalStateException {
        needSet(set);
        if (mark < 0 || mark > TOP_MARK) {
            throw new IllegalArgumentException("mark is out of range");
        }
        MarkSet old = now.sets[set];
        int number = old.countBelow(mark);
        if (old.at(number) == mark) {
            throw new IllegalStateException("the set has this mark already");
        }
        if (old.count >= MOST_MARKS) {
            throw new IllegalStateException("the set is full");
        }
        made.takeWith(old, number, mark);
        replace(set, now.modulus);
        return number;
    }

    public int remove(int set, int mark) throws IndexOutOfBoundsException, IllegalStateException {
        needSet(set);
        MarkSet old = now.sets[set];
        if (mark < 0 || old.at(old.countBelow(mark)) != mark) {
            throw new IllegalStateException("the set does not have this mark");
        }
        made.takeWithout(old, mark);
        replace(set, now.modulus);
        return made.count;
    }

    public int clear(int set) throws IndexOutOfBoundsException {
        needSet(set);
        int had = now.sets[set].count;
        made.empty();
        replace(set, now.modulus);
        return had;
    }

    public int copy(int set, int to) throws IndexOutOfBoundsException {
        needSet(set);
        needSet(to);
        made.take(now.sets[set]);
        replace(to, now.modulus);
        return made.count;
    }

    public int size(int set) throws IndexOutOfBoundsException {
        needSet(set);
        return now.sets[set].count;
    }

    public int mark(int set, int index) throws IndexOutOfBoundsException {
        needSet(set);
        if (index < 0 || index >= now.sets[set].count) {
            throw new IndexOutOfBoundsException("there is no such mark");
        }
        return now.sets[set].at(index);
    }

    public int length(int set) throws IndexOutOfBoundsException {
        needSet(set);
        return now.sets[set].span();
    }

    // ---- differences

    public int multiplicity(int set, int d) throws IndexOutOfBoundsException, IllegalArgumentException {
        needSet(set);
        if (d < 1 || d > TOP_MARK) {
            throw new IllegalArgumentException("d is out of range");
        }
        return now.sets[set].pairsApart(d);
    }

    public boolean isRuler(int set) throws IndexOutOfBoundsException {
        needSet(set);
        return measured(set).distinct;
    }

    public int completeUpTo(int set) throws IndexOutOfBoundsException {
        needSet(set);
        return measured(set).unbroken();
    }

    public int differences(int set) throws IndexOutOfBoundsException {
        needSet(set);
        return measured(set).row.ones();
    }

    public boolean isFamily(int sets) throws IllegalArgumentException {
        if (sets < 0 || sets > ALL_SETS) {
            throw new IllegalArgumentException("sets is out of range");
        }
        measureAll();
        return formFamily(sets);
    }

    // ---- modulus

    public int setModulus(int m) throws IllegalArgumentException {
        if (m < LEAST_MODULUS || m > TOP_MODULUS) {
            throw new IllegalArgumentException("m is out of range");
        }
        int previous = now.modulus;
        saved.save(now);
        now.modulus = m;
        return previous;
    }

    public int cyclicMultiplicity(int set, int d)
            throws IndexOutOfBoundsException, IllegalArgumentException, IllegalStateException {
        needSet(set);
        if (d < 1 || d >= now.modulus) {
            throw new IllegalArgumentException("d is out of range");
        }
        needBelowModulus(set);
        MarkSet marks = now.sets[set];
        return marks.pairsApart(d) + marks.pairsApart(now.modulus - d);
    }

    public boolean isCyclicRuler(int set) throws IndexOutOfBoundsException, IllegalStateException {
        needSet(set);
        needBelowModulus(set);
        tally.countCyclic(now.sets[set], now.modulus);
        return tally.isAtMost(1, now.modulus);
    }

    public int index(int set) throws IndexOutOfBoundsException, IllegalStateException {
        needSet(set);
        needBelowModulus(set);
        return indexOf(now.sets[set]);
    }

    public int map(int set, int t, int s, int to)
            throws IndexOutOfBoundsException, IllegalArgumentException, IllegalStateException {
        needSet(set);
        needSet(to);
        if (t < 0 || t > TOP_FACTOR || s < 0 || s > TOP_FACTOR) {
            throw new IllegalArgumentException("t or s is out of range");
        }
        needBelowModulus(set);
        turn(now.sets[set], t, s, made);
        replace(to, now.modulus);
        return made.count;
    }

    public int complement(int set, int to) throws IndexOutOfBoundsException, IllegalStateException {
        needSet(set);
        needSet(to);
        needBelowModulus(set);
        if (now.modulus - now.sets[set].count > MOST_MARKS) {
            throw new IllegalStateException("the result would have too many marks");
        }
        row.hold(now.sets[set]);
        made.empty();
        for (int a = 0; a < now.modulus; a++) {
            if (!row.has(a)) {
                made.push(a);
            }
        }
        replace(to, now.modulus);
        return made.count;
    }

    public int reflect(int set, int to) throws IndexOutOfBoundsException {
        needSet(set);
        needSet(to);
        MarkSet old = now.sets[set];
        made.empty();
        for (int i = old.count - 1; i >= 0; i--) {
            made.push(old.greatest() - old.at(i));
        }
        replace(to, now.modulus);
        return made.count;
    }

    public int multipliers(int set) throws IndexOutOfBoundsException, IllegalStateException {
        needSet(set);
        needBelowModulus(set);
        return countMultipliers(now.sets[set]);
    }

    public int canonical(int set, int to) throws IndexOutOfBoundsException, IllegalStateException {
        needSet(set);
        needSet(to);
        if (now.sets[set].count == 0) {
            throw new IllegalStateException("the set is empty");
        }
        needBelowModulus(set);
        makeCanonical(now.sets[set]);
        replace(to, now.modulus);
        return made.count;
    }

    // ---- constructions

    public int erdosTuran(int p, int to) throws IndexOutOfBoundsException, IllegalArgumentException {
        needSet(to);
        needPrime(p);
        made.empty();
        for (int k = 0; k < p; k++) {
            made.push(2 * p * k + residue(k * k, p));
        }
        replace(to, now.modulus);
        return made.span();
    }

    public int ruzsa(int p, int g, int to) throws IndexOutOfBoundsException, IllegalArgumentException {
        needSet(to);
        needPrime(p);
        if (!isPrimitiveRoot(g, p)) {
            throw new IllegalArgumentException("g is not a primitive root of p");
        }
        int m = p * (p - 1);
        int power = 1;
        row.wipe();
        for (int k = 1; k < p; k++) {
            power = residue(power * g, p);
            row.put(residue(p * k + (p - 1) * power, m));
        }
        row.spillInto(made);
        replace(to, m);
        return made.span();
    }

    public int residues(int p, int to) throws IndexOutOfBoundsException, IllegalArgumentException {
        needSet(to);
        needPrime(p);
        row.wipe();
        for (int k = 1; k < p; k++) {
            row.put(residue(k * k, p));
        }
        row.spillInto(made);
        replace(to, p);
        return made.count;
    }

    public int extend(int set, int n)
            throws IndexOutOfBoundsException, IllegalArgumentException, IllegalStateException {
        needSet(set);
        if (n < 1 || n > MOST_MARKS) {
            throw new IllegalArgumentException("n is out of range");
        }
        if (!measured(set).distinct) {
            throw new IllegalStateException("the set is not a ruler");
        }
        if (now.sets[set].count > n) {
            throw new IllegalStateException("the set has more than n marks");
        }
        if (!makeExtended(now.sets[set], spans[set], n)) {
            throw new IllegalStateException("a mark would be greater than 2000");
        }
        replace(set, now.modulus);
        return made.greatest();
    }

    // ---- searches

    public int optimal(int n, int to) throws IndexOutOfBoundsException, IllegalArgumentException {
        needSet(to);
        if (n < 1 || n > MOST_OPTIMAL) {
            throw new IllegalArgumentException("n is out of range");
        }
        makeOptimal(n);
        replace(to, now.modulus);
        return made.span();
    }

    public int sparse(int n, int to) throws IndexOutOfBoundsException, IllegalArgumentException {
        needSet(to);
        if (n < 1 || n > TOP_SPARSE) {
            throw new IllegalArgumentException("n is out of range");
        }
        makeSparse(n);
        replace(to, now.modulus);
        return made.count;
    }

    public int firstDifferenceSet(int v, int k, int to)
            throws IndexOutOfBoundsException, IllegalArgumentException {
        needSet(to);
        if (v < LEAST_ORDER || v > TOP_ORDER || k < LEAST_BLOCK || k > TOP_BLOCK || k >= v) {
            throw new IllegalArgumentException("v or k is out of range");
        }
        int ordered = k * (k - 1);
        // Each of the v - 1 differences takes the same share of the ordered pairs.
        if (residue(ordered, v - 1) != 0) {
            return NONE;
        }
        int share = quotient(ordered, v - 1);
        if (!makeDifferenceSet(v, k, share)) {
            return NONE;
        }
        replace(to, v);
        return share;
    }

    // ---- undo and checksum

    public int undo() throws IllegalStateException {
        if (saved.depth == 0) {
            throw new IllegalStateException("the undo stack is empty");
        }
        saved.restore(now);
        return saved.depth;
    }

    public long digest() {
        measureAll();
        long h = mixed(mixed(DIGEST_START, saved.depth), now.modulus);
        for (int set = 0; set < SETS; set++) {
            h = mixedSet(h, now.sets[set], spans[set]);
        }
        for (int mask = 0; mask <= ALL_SETS; mask++) {
            h = mixed(h, formFamily(mask) ? 1 : 0);
        }
        return h;
    }

    private long mixedSet(long start, MarkSet set, Spans measured) {
        long h = mixed(start, set.count);
        for (int i = 0; i < set.count; i++) {
            h = mixed(h, set.at(i));
        }
        h = mixed(h, measured.distinct ? 1 : 0);
        h = mixed(h, measured.unbroken());
        h = mixed(h, measured.row.ones());
        if (set.greatest() < now.modulus) {
            h = mixed(h, indexOf(set));
            h = mixed(h, countMultipliers(set));
        }
        return h;
    }

    private static long mixed(long h, long value) {
        return DIGEST_FACTOR * h + value;
    }

    // ---- what the calls need

    private static void needSet(int set) {
        if (set < 0 || set >= SETS) {
            throw new IndexOutOfBoundsException("there is no such set");
        }
    }

    private void needBelowModulus(int set) {
        if (now.sets[set].greatest() >= now.modulus) {
            throw new IllegalStateException("the set has a mark that is not less than the modulus");
        }
    }

    private static void needPrime(int p) {
        if (p < LEAST_PRIME || p > TOP_PRIME || !isPrime(p)) {
            throw new IllegalArgumentException("p is out of range or not a prime");
        }
    }

    private void replace(int to, int modulus) {
        saved.save(now);
        now.sets[to].take(made);
        now.modulus = modulus;
    }

    // ---- numbers

    private static int residue(int value, int m) {
        if (m < 1) {
            return 0;
        }
        int rest = value % m;
        return rest < 0 ? rest + m : rest;
    }

    private static int quotient(int value, int divisor) {
        return divisor < 1 ? 0 : value / divisor;
    }

    private static boolean isPrime(int p) {
        for (int d = 2; d < p; d++) {
            if (residue(p, d) == 0) {
                return false;
            }
        }
        return p > 1;
    }

    private static boolean isPrimitiveRoot(int g, int p) {
        if (g < 2 || g >= p) {
            return false;
        }
        int power = 1;
        // The powers repeat as soon as one of them is 1.
        for (int k = 1; k < p - 1; k++) {
            power = residue(power * g, p);
            if (power == 1) {
                return false;
            }
        }
        return true;
    }

    private static boolean isCoprime(int a, int b) {
        int high = a;
        int low = b;
        for (int i = 0; i < EUCLID_STEPS && low != 0; i++) {
            int rest = residue(high, low);
            high = low;
            low = rest;
        }
        return high == 1;
    }

    // ---- differences of the sets

    private Spans measured(int set) {
        spans[set].measure(now.sets[set]);
        return spans[set];
    }

    private void measureAll() {
        for (int set = 0; set < SETS; set++) {
            Spans here = measured(set);
            here.clashes = here.distinct ? 0 : 1 << set;
            for (int other = 0; other < set; other++) {
                if (here.row.meets(spans[other].row)) {
                    here.clashes |= 1 << other;
                }
            }
        }
    }

    /** Asks for measureAll first. */
    private boolean formFamily(int mask) {
        for (int set = 0; set < SETS; set++) {
            if ((mask >> set & 1) == 1 && (spans[set].clashes & mask) != 0) {
                return false;
            }
        }
        return true;
    }

    private int indexOf(MarkSet set) {
        if (set.count < 2) {
            return NONE;
        }
        tally.countCyclic(set, now.modulus);
        return tally.isLevel(now.modulus) ? tally.of(1) : NONE;
    }

    // ---- sets modulo the modulus

    private void turn(MarkSet from, int t, int s, MarkSet into) {
        row.wipe();
        for (int i = 0; i < from.count; i++) {
            row.put(residue(t * from.at(i) + s, now.modulus));
        }
        row.spillInto(into);
    }

    private int countMultipliers(MarkSet set) {
        units.prepare(now.modulus);
        // Two sets of one mark, or of none, are always shifts of each other.
        if (set.count < 2) {
            return units.count;
        }
        tally.countCyclic(set, now.modulus);
        row.hold(set);
        int found = 0;
        for (int i = 0; i < units.count; i++) {
            int t = units.at(i);
            if (keepsTally(set, t) && turnsIntoShift(set, t)) {
                found++;
            }
        }
        return found;
    }

    /** A multiplier t gives t * d the multiplicity of d: this leaves few t for the dear test. */
    private boolean keepsTally(MarkSet set, int t) {
        for (int i = 1; i < set.count; i++) {
            int d = set.at(i) - set.at(0);
            if (tally.of(residue(t * d, now.modulus)) != tally.of(d)) {
                return false;
            }
        }
        return true;
    }

    private boolean turnsIntoShift(MarkSet set, int t) {
        // The image of the first mark is some mark shifted, so no other shift can do.
        for (int j = 0; j < set.count; j++) {
            if (isShifted(set, t, t * set.at(0) - set.at(j))) {
                return true;
            }
        }
        return false;
    }

    /** Asks for the set in the row; t is coprime to the modulus, so different marks stay different. */
    private boolean isShifted(MarkSet set, int t, int s) {
        for (int i = 0; i < set.count; i++) {
            if (!row.has(residue(t * set.at(i) - s, now.modulus))) {
                return false;
            }
        }
        return true;
    }

    /**
     * The first form has the mark 0, and so it is told by the gaps behind its marks;
     * its gaps are the first ones, too. A shift only changes the gap that they begin with.
     */
    private void makeCanonical(MarkSet set) {
        units.prepare(now.modulus);
        best.count = 0;
        for (int i = 0; i < units.count; i++) {
            int t = units.at(i);
            // The gaps for m - t are those for t in reverse.
            if (t <= now.modulus - t) {
                turn(set, t, 0, turned);
                gaps.measure(turned, now.modulus);
                takeBest();
                gaps.reverse();
                takeBest();
            }
        }
        best.spillInto(made);
    }

    private void takeBest() {
        if (best.count == 0) {
            best.takeFrom(gaps, gaps.firstRotation());
        } else if (gaps.mayComeBefore(best)) {
            int start = gaps.firstRotation();
            if (gaps.comeBefore(start, best)) {
                best.takeFrom(gaps, start);
            }
        }
    }

    // ---- the construction of Mian and Chowla, and the searches

    private boolean makeExtended(MarkSet from, Spans taken, int n) {
        made.take(from);
        if (made.count == 0) {
            made.push(0);
        }
        for (int next = made.greatest() + 1; made.count < n && next <= TOP_MARK; next++) {
            if (taken.isFree(made, next)) {
                taken.note(made, next);
                made.push(next);
            }
        }
        return made.count == n;
    }

    private void makeOptimal(int n) {
        made.empty();
        made.push(0);
        boolean found = n < 2;
        // n marks have n * (n - 1) / 2 differences, all different.
        for (int length = n * (n - 1) / 2; !found && length <= TOP_LENGTH; length++) {
            found = finishRuler(made, n - 2, length, 1L, 1L << length);
        }
    }

    /**
     * Places the inner marks that are left, and then the mark at the length.
     * Bit i of near tells a mark i below the last one, bit i of used a difference that is there already.
     */
    private static boolean finishRuler(MarkSet ruler, int left, int length, long near, long used) {
        if (left <= 0) {
            ruler.push(length);
            return true;
        }
        int last = ruler.greatest();
        // The gaps behind the next mark differ, so they need at least 1 + 2 + ... together.
        int latest = length - left * (left + 1) / 2;
        for (int next = last + 1; next <= latest; next++) {
            long below = near << (next - last);
            long above = 1L << (length - next);
            if ((below & above) == 0L && ((below | above) & used) == 0L) {
                ruler.push(next);
                if (finishRuler(ruler, left - 1, length, below | 1L, used | below | above)) {
                    return true;
                }
                ruler.pop();
            }
        }
        return false;
    }

    private void makeSparse(int n) {
        made.empty();
        made.push(0);
        boolean found = false;
        long between = (1L << n) - 2L;
        for (int inner = 0; !found && inner < n; inner++) {
            found = finishSparse(made, inner, n, 1L, between);
        }
    }

    /**
     * Places the inner marks that are left, and then the mark n.
     * Bit i of near tells a mark i below the last one, bit i of missing a difference that is not there yet.
     */
    private static boolean finishSparse(MarkSet ruler, int left, int n, long near, long missing) {
        int pairs = left * (ruler.count + 1) + left * (left - 1) / 2;
        if (Long.bitCount(missing) > pairs) {
            return false;
        }
        if (left <= 0) {
            ruler.push(n);
            return true;
        }
        int last = ruler.greatest();
        for (int next = last + 1; next <= n - left; next++) {
            long below = near << (next - last);
            long fresh = below | 1L << (n - next);
            ruler.push(next);
            if (finishSparse(ruler, left - 1, n, below | 1L, missing & ~fresh)) {
                return true;
            }
            ruler.pop();
        }
        return false;
    }

    private boolean makeDifferenceSet(int v, int k, int share) {
        // Two marks of a difference set differ by 1, and a shift brings them to 0 and 1: so the first one has these.
        made.empty();
        made.push(0);
        tally.wipe();
        tally.countMark(made, 1, v, 1);
        made.push(1);
        return finishDifferenceSet(made, tally, k - 2, v, share);
    }

    /** If no difference has more than its share when all marks stand, each one has just its share. */
    private static boolean finishDifferenceSet(MarkSet set, Tally counts, int left, int v, int share) {
        if (left <= 0) {
            return true;
        }
        for (int next = set.greatest() + 1; next <= v - left; next++) {
            if (counts.countMark(set, next, v, 1) <= share) {
                set.push(next);
                if (finishDifferenceSet(set, counts, left - 1, v, share)) {
                    return true;
                }
                set.pop();
            }
            counts.countMark(set, next, v, -1);
        }
        return false;
    }

    // ---- what the workbench is made of

    /** Marks in ascending order. */
    private static final class MarkSet {
        private final int[] marks = new int[MOST_MARKS];
        private int count = 0;

        int at(int number) {
            return number >= 0 && number < count ? marks[number] : NONE;
        }

        int greatest() {
            return at(count - 1);
        }

        int span() {
            return count < 2 ? 0 : greatest() - at(0);
        }

        int countBelow(int mark) {
            int below = 0;
            for (int i = 0; i < count; i++) {
                if (marks[i] < mark) {
                    below++;
                }
            }
            return below;
        }

        int pairsApart(int d) {
            int pairs = 0;
            for (int i = 1; i < count; i++) {
                for (int j = 0; j < i; j++) {
                    if (marks[i] - marks[j] == d) {
                        pairs++;
                    }
                }
            }
            return pairs;
        }

        void empty() {
            count = 0;
        }

        void push(int mark) {
            if (count < MOST_MARKS) {
                marks[count] = mark;
                count++;
            }
        }

        void pop() {
            if (count > 0) {
                count--;
            }
        }

        void take(MarkSet other) {
            System.arraycopy(other.marks, 0, marks, 0, MOST_MARKS);
            count = other.count;
        }

        void takeWith(MarkSet other, int number, int mark) {
            empty();
            for (int i = 0; i < number; i++) {
                push(other.at(i));
            }
            push(mark);
            for (int i = number; i < other.count; i++) {
                push(other.at(i));
            }
        }

        void takeWithout(MarkSet other, int mark) {
            empty();
            for (int i = 0; i < other.count; i++) {
                if (other.at(i) != mark) {
                    push(other.at(i));
                }
            }
        }
    }

    /** The gaps from each mark to the next one modulo a number, and so round to the first mark again. */
    private static final class Gaps {
        private final int[] gaps = new int[MOST_MARKS];
        private int count = 0;

        int at(int number) {
            return number >= 0 && number < count ? gaps[number] : NONE;
        }

        int around(int number) {
            return number < count ? at(number) : at(number - count);
        }

        void push(int gap) {
            if (count < MOST_MARKS) {
                gaps[count] = gap;
                count++;
            }
        }

        void measure(MarkSet set, int m) {
            count = 0;
            for (int i = 1; i < set.count; i++) {
                push(set.at(i) - set.at(i - 1));
            }
            push(m - set.span());
        }

        void reverse() {
            for (int i = 0, j = count - 1; i < j; i++, j--) {
                int gap = gaps[i];
                gaps[i] = gaps[j];
                gaps[j] = gap;
            }
        }

        /** Looks at two gaps of each rotation: this spares most searches for the first rotation. */
        boolean mayComeBefore(Gaps other) {
            int first = other.at(0);
            int second = other.around(1);
            for (int i = 0; i < count; i++) {
                if (gaps[i] < first || gaps[i] == first && around(i + 1) <= second) {
                    return true;
                }
            }
            return false;
        }

        /** Where the lexicographically first rotation begins: i and j are the starts that may still be it. */
        int firstRotation() {
            int i = 0;
            int j = 1;
            int same = 0;
            // Each step makes i + j + same greater.
            for (int step = 0; step < 3 * MOST_MARKS && i < count && j < count && same < count; step++) {
                int difference = around(i + same) - around(j + same);
                if (difference == 0) {
                    same++;
                } else {
                    // A start between one that has lost and the place where it lost loses, too.
                    i += difference > 0 ? same + 1 : 0;
                    j += difference < 0 ? same + 1 : 0;
                    j += i == j ? 1 : 0;
                    same = 0;
                }
            }
            return Math.min(i, j);
        }

        boolean comeBefore(int start, Gaps other) {
            for (int i = 0; i < count; i++) {
                int difference = around(start + i) - other.at(i);
                if (difference != 0) {
                    return difference < 0;
                }
            }
            return false;
        }

        void takeFrom(Gaps other, int start) {
            count = 0;
            for (int i = 0; i < other.count; i++) {
                push(other.around(start + i));
            }
        }

        void spillInto(MarkSet set) {
            int mark = 0;
            set.empty();
            for (int i = 0; i < count; i++) {
                set.push(mark);
                mark += gaps[i];
            }
        }
    }

    /** A set of numbers from 0 to 2000 without a limit on how many. */
    private static final class BitRow {
        private final long[] words = new long[ROW_WORDS];

        void wipe() {
            Arrays.fill(words, 0L);
        }

        boolean has(int number) {
            return number >= 0 && number <= TOP_MARK
                    && (words[number / WORD_BITS] >> (number % WORD_BITS) & 1L) != 0L;
        }

        void put(int number) {
            if (number >= 0 && number <= TOP_MARK) {
                words[number / WORD_BITS] |= 1L << (number % WORD_BITS);
            }
        }

        void hold(MarkSet set) {
            wipe();
            for (int i = 0; i < set.count; i++) {
                put(set.at(i));
            }
        }

        int ones() {
            int ones = 0;
            for (int w = 0; w < ROW_WORDS; w++) {
                ones += Long.bitCount(words[w]);
            }
            return ones;
        }

        boolean meets(BitRow other) {
            for (int w = 0; w < ROW_WORDS; w++) {
                if ((words[w] & other.words[w]) != 0L) {
                    return true;
                }
            }
            return false;
        }

        void spillInto(MarkSet set) {
            set.empty();
            for (int w = 0; w < ROW_WORDS; w++) {
                long bits = words[w];
                for (int i = 0; i < WORD_BITS && bits != 0L; i++) {
                    set.push(w * WORD_BITS + Long.numberOfTrailingZeros(bits));
                    bits &= bits - 1L;
                }
            }
        }
    }

    /** The differences of a set. */
    private static final class Spans {
        private final BitRow row = new BitRow();
        private boolean distinct = true;
        // A mask of the sets that can't be in one family with this one; this one itself if it is no ruler.
        private int clashes = 0;

        void measure(MarkSet set) {
            row.wipe();
            distinct = true;
            for (int i = 1; i < set.count; i++) {
                for (int j = 0; j < i; j++) {
                    int d = set.at(i) - set.at(j);
                    if (row.has(d)) {
                        distinct = false;
                    }
                    row.put(d);
                }
            }
        }

        int unbroken() {
            int n = 0;
            while (n < TOP_MARK && row.has(n + 1)) {
                n++;
            }
            return n;
        }

        boolean isFree(MarkSet set, int next) {
            for (int i = 0; i < set.count; i++) {
                if (row.has(next - set.at(i))) {
                    return false;
                }
            }
            return true;
        }

        void note(MarkSet set, int next) {
            for (int i = 0; i < set.count; i++) {
                row.put(next - set.at(i));
            }
        }
    }

    /** Cyclic multiplicities. */
    private static final class Tally {
        private final int[] counts = new int[TOP_MODULUS];

        void wipe() {
            Arrays.fill(counts, 0);
        }

        int of(int d) {
            return d >= 0 && d < TOP_MODULUS ? counts[d] : 0;
        }

        int bump(int d, int by) {
            if (d < 0 || d >= TOP_MODULUS) {
                return 0;
            }
            counts[d] += by;
            return counts[d];
        }

        void countCyclic(MarkSet set, int m) {
            wipe();
            for (int i = 1; i < set.count; i++) {
                for (int j = 0; j < i; j++) {
                    int d = set.at(i) - set.at(j);
                    bump(d, 1);
                    bump(m - d, 1);
                }
            }
        }

        /** Returns the greatest count that has changed. */
        int countMark(MarkSet set, int next, int m, int by) {
            int greatest = 0;
            for (int i = 0; i < set.count; i++) {
                int d = next - set.at(i);
                greatest = Math.max(greatest, bump(d, by));
                greatest = Math.max(greatest, bump(m - d, by));
            }
            return greatest;
        }

        boolean isAtMost(int most, int m) {
            for (int d = 1; d < m; d++) {
                if (of(d) > most) {
                    return false;
                }
            }
            return true;
        }

        boolean isLevel(int m) {
            for (int d = 2; d < m; d++) {
                if (of(d) != of(1)) {
                    return false;
                }
            }
            return true;
        }
    }

    /** The numbers coprime to a modulus, kept until another modulus is asked for. */
    private static final class Units {
        private final int[] numbers = new int[TOP_MODULUS];
        private int count = 0;
        private int modulus = 0;

        int at(int number) {
            return number >= 0 && number < count ? numbers[number] : NONE;
        }

        void prepare(int m) {
            if (m == modulus) {
                return;
            }
            modulus = m;
            count = 0;
            for (int t = 1; t < m && count < TOP_MODULUS; t++) {
                if (isCoprime(m, t)) {
                    numbers[count] = t;
                    count++;
                }
            }
        }
    }

    /** What a saved state has: the sets and the modulus. */
    private static final class State {
        private final MarkSet[] sets;
        private int modulus;

        State() {
            sets = new MarkSet[SETS];
            for (int i = 0; i < SETS; i++) {
                sets[i] = new MarkSet();
            }
            modulus = FIRST_MODULUS;
        }

        void take(State other) {
            for (int i = 0; i < SETS; i++) {
                sets[i].take(other.sets[i]);
            }
            modulus = other.modulus;
        }
    }

    /** A ring, so that the oldest state gives its place to the newest one. */
    private static final class UndoStack {
        private final State[] states;
        private int next;
        private int depth;

        UndoStack() {
            states = new State[UNDO_STATES];
            for (int i = 0; i < UNDO_STATES; i++) {
                states[i] = new State();
            }
            next = 0;
            depth = 0;
        }

        void save(State state) {
            if (next < 0 || next >= UNDO_STATES) {
                return;
            }
            states[next].take(state);
            next = next == UNDO_STATES - 1 ? 0 : next + 1;
            depth = Math.min(depth + 1, UNDO_STATES);
        }

        void restore(State state) {
            int latest = next == 0 ? UNDO_STATES - 1 : next - 1;
            if (depth == 0 || latest < 0 || latest >= UNDO_STATES) {
                return;
            }
            state.take(states[latest]);
            next = latest;
            depth--;
        }
    }
}
