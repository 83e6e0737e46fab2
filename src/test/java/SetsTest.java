/** Promises 1 to 8: a new object, add, remove, clear, copy, size, mark, length. */
public final class SetsTest {
    public static void main(String[] args) {
        newObject();
        add();
        addFull();
        remove();
        clear();
        copy();
        sizeAndMark();
        length();
        Check.end("SetsTest");
    }

    private static void newObject() {
        RulerWorkbench x = new RulerWorkbench();
        for (int set = 0; set < 4; set++) {
            Check.same("new: size", x.size(set), 0);
        }
        Check.state(x, "new: undo", () -> x.undo());
        Check.same("new: modulus", x.setModulus(7), 31);
        Check.same("NONE", RulerWorkbench.NONE, -1);
        RulerWorkbench y = new RulerWorkbench();
        Check.same("another object has its own sets", y.setModulus(9), 31);
    }

    private static void add() {
        RulerWorkbench x = new RulerWorkbench();
        Check.same("add(0, 5)", x.add(0, 5), 0);
        Check.same("add(0, 2000)", x.add(0, 2000), 1);
        Check.same("add(0, 0)", x.add(0, 0), 0);
        Check.same("add(0, 7)", x.add(0, 7), 2);
        Check.marks("added", x, 0, 0, 5, 7, 2000);
        Check.marks("other sets", x, 3);
        Check.index(x, "add(-1, 1)", () -> x.add(-1, 1));
        Check.index(x, "add(4, 1)", () -> x.add(4, 1));
        Check.index(x, "add(4, -1)", () -> x.add(4, -1));
        Check.index(x, "add(MIN, MIN)", () -> x.add(Integer.MIN_VALUE, Integer.MIN_VALUE));
        Check.argument(x, "add(0, -1)", () -> x.add(0, -1));
        Check.argument(x, "add(0, 2001)", () -> x.add(0, 2001));
        Check.argument(x, "add(0, MAX)", () -> x.add(0, Integer.MAX_VALUE));
        Check.state(x, "add(0, 7)", () -> x.add(0, 7));
        Check.state(x, "add(0, 0)", () -> x.add(0, 0));
        Check.state(x, "add(0, 2000)", () -> x.add(0, 2000));
        Check.same("add is undoable", x.undo(), 3);
        Check.marks("undone add", x, 0, 0, 5, 2000);
    }

    private static void addFull() {
        RulerWorkbench x = new RulerWorkbench();
        for (int i = 0; i < 24; i++) {
            Check.same("add up to 24", x.add(2, 10 * i), i);
        }
        Check.state(x, "the 25th mark", () -> x.add(2, 3));
        Check.state(x, "a mark of a full set", () -> x.add(2, 10));
        Check.argument(x, "a full set and a wrong mark", () -> x.add(2, 2001));
        Check.same("size of a full set", x.size(2), 24);
        Check.same("last mark of a full set", x.mark(2, 23), 230);
    }

    private static void remove() {
        RulerWorkbench x = Check.with(3, 8, 1, 2000);
        Check.index(x, "remove(4, 3)", () -> x.remove(4, 3));
        Check.index(x, "remove(-1, 3)", () -> x.remove(-1, 3));
        Check.state(x, "remove(0, 4)", () -> x.remove(0, 4));
        Check.state(x, "remove(0, -1)", () -> x.remove(0, -1));
        Check.state(x, "remove(0, 2001)", () -> x.remove(0, 2001));
        Check.state(x, "remove(1, 3)", () -> x.remove(1, 3));
        Check.state(x, "remove(1, -1) of an empty set", () -> x.remove(1, -1));
        Check.same("remove(0, 3)", x.remove(0, 3), 3);
        Check.marks("removed", x, 0, 1, 8, 2000);
        Check.same("remove(0, 2000)", x.remove(0, 2000), 2);
        Check.same("remove(0, 1)", x.remove(0, 1), 1);
        Check.same("remove(0, 8)", x.remove(0, 8), 0);
        Check.marks("all removed", x, 0);
        Check.same("remove is undoable", x.undo(), 3);
        Check.marks("undone remove", x, 0, 8);
        x.add(0, 0);
        Check.same("remove(0, 0)", x.remove(0, 0), 1);
        Check.marks("the mark 0 is removed", x, 0, 8);
    }

    private static void clear() {
        RulerWorkbench x = Check.with(3, 8, 1);
        Check.index(x, "clear(4)", () -> x.clear(4));
        Check.index(x, "clear(-1)", () -> x.clear(-1));
        Check.same("clear(0)", x.clear(0), 3);
        Check.marks("cleared", x, 0);
        Check.same("clear of an empty set", x.clear(0), 0);
        Check.same("clear is undoable, also if it changes nothing", x.undo(), 3);
        Check.marks("undone the second clear", x, 0);
        Check.same("undo of the first clear", x.undo(), 2);
        Check.marks("undone clear", x, 0, 1, 3, 8);
    }

    private static void copy() {
        RulerWorkbench x = Check.with(3, 8, 1);
        Check.put(x, 1, 100);
        Check.index(x, "copy(0, 4)", () -> x.copy(0, 4));
        Check.index(x, "copy(4, 0)", () -> x.copy(4, 0));
        Check.index(x, "copy(-1, -1)", () -> x.copy(-1, -1));
        Check.same("copy(0, 1)", x.copy(0, 1), 3);
        Check.marks("copied", x, 1, 1, 3, 8);
        x.remove(1, 3);
        Check.marks("the set that was copied stays", x, 0, 1, 3, 8);
        Check.same("copy(0, 0)", x.copy(0, 0), 3);
        Check.marks("copied onto itself", x, 0, 1, 3, 8);
        Check.same("copy of an empty set", x.copy(3, 0), 0);
        Check.marks("replaced by an empty set", x, 0);
        Check.same("copy is undoable", x.undo(), 3);
        Check.same("copy onto itself is undoable", x.undo(), 2);
        x.undo();
        Check.same("undo of the copy", x.undo(), 0);
        Check.marks("undone copy", x, 1, 100);
    }

    private static void sizeAndMark() {
        RulerWorkbench x = Check.with(9, 4);
        Check.same("size(0)", x.size(0), 2);
        Check.same("mark(0, 0)", x.mark(0, 0), 4);
        Check.same("mark(0, 1)", x.mark(0, 1), 9);
        Check.index(x, "size(4)", () -> x.size(4));
        Check.index(x, "size(-1)", () -> x.size(-1));
        Check.index(x, "mark(4, 0)", () -> x.mark(4, 0));
        Check.index(x, "mark(-1, 0)", () -> x.mark(-1, 0));
        Check.index(x, "mark(0, 2)", () -> x.mark(0, 2));
        Check.index(x, "mark(0, -1)", () -> x.mark(0, -1));
        Check.index(x, "mark(0, 24)", () -> x.mark(0, 24));
        Check.index(x, "mark(1, 0) of an empty set", () -> x.mark(1, 0));
        Check.index(x, "mark(0, MAX)", () -> x.mark(0, Integer.MAX_VALUE));
    }

    private static void length() {
        RulerWorkbench x = new RulerWorkbench();
        Check.same("length of an empty set", x.length(0), 0);
        x.add(0, 40);
        Check.same("length of one mark", x.length(0), 0);
        x.add(0, 2000);
        x.add(0, 100);
        Check.same("length", x.length(0), 1960);
        x.add(0, 0);
        Check.same("the greatest length", x.length(0), 2000);
        Check.index(x, "length(4)", () -> x.length(4));
        Check.index(x, "length(-1)", () -> x.length(-1));
        Check.same("asking saves nothing", x.undo(), 3);
    }
}
