/** Promises 30 and 31: undo and digest. */
public final class UndoAndDigestTest {
    public static void main(String[] args) {
        emptyStack();
        latestFour();
        ring();
        wholeState();
        digestOfNew();
        digestOfMore();
        digestAsks();
        Check.end("UndoAndDigestTest");
    }

    private static void emptyStack() {
        RulerWorkbench x = new RulerWorkbench();
        Check.state(x, "undo of a new object", () -> x.undo());
        x.add(0, 1);
        Check.same("undo", x.undo(), 0);
        Check.state(x, "undo of an emptied stack", () -> x.undo());
        Check.marks("undone", x, 0);
    }

    private static void latestFour() {
        RulerWorkbench x = Check.with(1, 2, 3, 4, 5, 6);
        for (int left = 3; left >= 0; left--) {
            Check.same("states left", x.undo(), left);
            Check.same("marks left", x.size(0), 2 + left);
        }
        Check.state(x, "the fifth undo", () -> x.undo());
        Check.marks("older states are dropped", x, 0, 1, 2);
    }

    private static void ring() {
        RulerWorkbench x = new RulerWorkbench();
        for (int i = 0; i < 20; i++) {
            x.add(0, 2 * i);
            x.add(1, i);
            Check.same("undo in between", x.undo(), Math.min(i + 1, 3));
            Check.same("undone in between", x.size(1), 0);
        }
        Check.same("undo", x.undo(), 2);
        Check.same("undo", x.undo(), 1);
        Check.same("undo", x.undo(), 0);
        Check.same("three marks less", x.size(0), 17);
    }

    private static void wholeState() {
        RulerWorkbench x = Check.with(1);
        long before = x.digest();
        x.ruzsa(7, 3, 0);
        x.undo();
        Check.same("sets and modulus are back", x.digest(), before);
        x.add(1, 5);
        x.add(2, 6);
        x.setModulus(8);
        x.copy(1, 3);
        x.undo();
        Check.marks("set 3", x, 3);
        x.undo();
        x.undo();
        Check.marks("set 2", x, 2);
        Check.same("modulus", x.setModulus(2), 31);
        Check.marks("set 1", x, 1, 5);
    }

    private static long mix(long... values) {
        long h = 12467;
        for (long value : values) {
            h = 31 * h + value;
        }
        return h;
    }

    private static void digestOfNew() {
        long due = mix(0, 31,
                0, 1, 0, 0, -1, 30, 0, 1, 0, 0, -1, 30, 0, 1, 0, 0, -1, 30, 0, 1, 0, 0, -1, 30,
                1, 1, 1, 1, 1, 1, 1, 1, 1, 1, 1, 1, 1, 1, 1, 1);
        Check.same("digest of a new object", new RulerWorkbench().digest(), due);
    }

    private static void digestOfMore() {
        RulerWorkbench x = Check.with(0, 1, 3);
        Check.put(x, 1, 0, 2, 4);
        Check.put(x, 2, 6, 7);
        x.setModulus(7);
        long due = mix(4, 7,
                3, 0, 1, 3, 1, 3, 3, 1, 3,
                3, 0, 2, 4, 0, 0, 2, -1, 2,
                2, 6, 7, 1, 1, 1,
                0, 1, 0, 0, -1, 6,
                1, 1, 0, 0, 1, 0, 0, 0, 1, 1, 0, 0, 1, 0, 0, 0);
        Check.same("digest", x.digest(), due);
    }

    private static void digestAsks() {
        RulerWorkbench x = Check.with(0, 1, 3, 7);
        long first = x.digest();
        Check.same("digest changes nothing", x.digest(), first);
        Check.same("digest saves nothing", x.undo(), 3);
    }
}
