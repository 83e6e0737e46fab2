/** What the tests share: comparing an answer with the one that is due, and the exit code. */
final class Check {
    /** A call of the workbench. */
    interface Call {
        long answer();
    }

    private static int wrong = 0;
    private static int checked = 0;

    private Check() {
    }

    static void same(String what, long got, long due) {
        checked++;
        if (got != due) {
            wrong++;
            System.out.println(what + " answered " + got + ", due is " + due);
        }
    }

    static void text(String what, String got, String due) {
        checked++;
        if (!got.equals(due)) {
            wrong++;
            System.out.println(what + " answered " + got + ", due is " + due);
        }
    }

    static void yes(String what, boolean got) {
        same(what, got ? 1 : 0, 1);
    }

    static void no(String what, boolean got) {
        same(what, got ? 1 : 0, 0);
    }

    /** The call must throw just this class, not one below it, and leave the workbench as it was. */
    private static void refuses(RulerWorkbench x, String what, Class<?> due, Call call) {
        checked++;
        long before = x.digest();
        String got = "nothing";
        try {
            long answer = call.answer();
            got = "nothing, and answered " + answer;
        } catch (RuntimeException e) {
            if (e.getClass() == due) {
                same(what + " left the digest", x.digest(), before);
                return;
            }
            got = e.getClass().getName();
        }
        wrong++;
        System.out.println(what + " threw " + got + ", due is " + due.getName());
    }

    static void index(RulerWorkbench x, String what, Call call) {
        refuses(x, what, IndexOutOfBoundsException.class, call);
    }

    static void argument(RulerWorkbench x, String what, Call call) {
        refuses(x, what, IllegalArgumentException.class, call);
    }

    static void state(RulerWorkbench x, String what, Call call) {
        refuses(x, what, IllegalStateException.class, call);
    }

    /** The set has just these marks; asked by size and mark. */
    static void marks(String what, RulerWorkbench x, int set, int... due) {
        same(what + ": size", x.size(set), due.length);
        for (int i = 0; i < due.length && i < x.size(set); i++) {
            same(what + ": mark " + i, x.mark(set, i), due[i]);
        }
    }

    /** A new workbench whose set 0 has these marks. */
    static RulerWorkbench with(int... marks) {
        RulerWorkbench x = new RulerWorkbench();
        put(x, 0, marks);
        return x;
    }

    static void put(RulerWorkbench x, int set, int... marks) {
        for (int mark : marks) {
            x.add(set, mark);
        }
    }

    static void end(String test) {
        System.out.println(test + ": " + checked + " checks, " + wrong + " wrong");
        if (wrong != 0 || checked == 0) {
            System.exit(1);
        }
    }
}
