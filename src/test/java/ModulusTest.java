/** Promises 14 to 22: setModulus to canonical. */
public final class ModulusTest {
    public static void main(String[] args) {
        setModulus();
        cyclicMultiplicity();
        isCyclicRuler();
        index();
        map();
        complement();
        reflect();
        multipliers();
        canonical();
        Check.end("ModulusTest");
    }

    private static void setModulus() {
        RulerWorkbench x = new RulerWorkbench();
        Check.same("setModulus(2)", x.setModulus(2), 31);
        Check.same("setModulus(1000)", x.setModulus(1000), 2);
        Check.same("setModulus(1000) again", x.setModulus(1000), 1000);
        Check.argument(x, "setModulus(1)", () -> x.setModulus(1));
        Check.argument(x, "setModulus(0)", () -> x.setModulus(0));
        Check.argument(x, "setModulus(-31)", () -> x.setModulus(-31));
        Check.argument(x, "setModulus(1001)", () -> x.setModulus(1001));
        Check.same("setModulus is undoable", x.undo(), 2);
        Check.same("undone", x.undo(), 1);
        Check.same("the modulus is back", x.setModulus(5), 2);
    }

    private static void cyclicMultiplicity() {
        RulerWorkbench x = Check.with(0, 1, 3);
        x.setModulus(6);
        Check.same("1 in 0 1 3 modulo 6", x.cyclicMultiplicity(0, 1), 1);
        Check.same("3 in 0 1 3 modulo 6", x.cyclicMultiplicity(0, 3), 2);
        Check.same("5 in 0 1 3 modulo 6", x.cyclicMultiplicity(0, 5), 1);
        Check.same("in an empty set", x.cyclicMultiplicity(1, 5), 0);
        Check.argument(x, "d = 0", () -> x.cyclicMultiplicity(0, 0));
        Check.argument(x, "d = m", () -> x.cyclicMultiplicity(0, 6));
        Check.argument(x, "d = -1", () -> x.cyclicMultiplicity(0, -1));
        Check.index(x, "no set", () -> x.cyclicMultiplicity(4, 0));
        x.add(0, 6);
        Check.state(x, "a mark of 6", () -> x.cyclicMultiplicity(0, 1));
        Check.argument(x, "d is looked at first", () -> x.cyclicMultiplicity(0, 6));
        Check.index(x, "the set is looked at first", () -> x.cyclicMultiplicity(-1, 6));
        x.setModulus(7);
        Check.same("1 in 0 1 3 6 modulo 7", x.cyclicMultiplicity(0, 1), 2);
    }

    private static void isCyclicRuler() {
        RulerWorkbench x = Check.with(0, 1, 3);
        x.setModulus(7);
        Check.yes("0 1 3 modulo 7", x.isCyclicRuler(0));
        x.setModulus(6);
        Check.no("0 1 3 modulo 6", x.isCyclicRuler(0));
        x.setModulus(8);
        Check.yes("0 1 3 modulo 8", x.isCyclicRuler(0));
        Check.yes("an empty set", x.isCyclicRuler(1));
        x.add(1, 7);
        Check.yes("one mark", x.isCyclicRuler(1));
        x.setModulus(3);
        Check.state(x, "a mark of 3 modulo 3", () -> x.isCyclicRuler(0) ? 1 : 0);
        Check.index(x, "no set", () -> x.isCyclicRuler(4) ? 1 : 0);
        Check.index(x, "no set below", () -> x.isCyclicRuler(-1) ? 1 : 0);
        x.setModulus(2);
        Check.put(x, 2, 0, 1);
        Check.no("0 1 modulo 2", x.isCyclicRuler(2));
    }

    private static void index() {
        RulerWorkbench x = Check.with(0, 1, 3);
        Check.same("0 1 3 modulo 31", x.index(0), RulerWorkbench.NONE);
        x.setModulus(7);
        Check.same("0 1 3 modulo 7", x.index(0), 1);
        x.add(0, 2);
        Check.same("0 1 2 3 modulo 7", x.index(0), RulerWorkbench.NONE);
        Check.same("an empty set", x.index(1), RulerWorkbench.NONE);
        x.add(1, 0);
        Check.same("one mark", x.index(1), RulerWorkbench.NONE);
        x.setModulus(2);
        Check.same("one mark modulo 2", x.index(1), RulerWorkbench.NONE);
        x.add(1, 1);
        Check.same("0 1 modulo 2", x.index(1), 2);
        x.setModulus(3);
        Check.same("0 1 modulo 3", x.index(1), 1);
        Check.state(x, "a mark of 3 modulo 3", () -> x.index(0));
        Check.index(x, "no set", () -> x.index(4));
        Check.index(x, "no set below", () -> x.index(-1));
        x.setModulus(4);
        Check.same("0 1 modulo 4", x.index(1), RulerWorkbench.NONE);
        Check.same("0 1 2 3 modulo 4", x.index(0), 4);
    }

    private static void map() {
        RulerWorkbench x = Check.with(0, 1, 3, 30);
        Check.same("map(0, 2, 1, 1)", x.map(0, 2, 1, 1), 4);
        Check.marks("mapped", x, 1, 1, 3, 7, 30);
        Check.marks("the set that was mapped stays", x, 0, 0, 1, 3, 30);
        Check.same("map by 0", x.map(0, 0, 1000, 2), 1);
        Check.marks("mapped by 0", x, 2, 8);
        Check.same("map by 1000", x.map(0, 1000, 0, 0), 4);
        Check.marks("mapped onto itself", x, 0, 0, 8, 23, 24);
        Check.same("map of an empty set", x.map(3, 5, 5, 0), 0);
        Check.marks("mapped an empty set", x, 0);
        Check.same("map is undoable", x.undo(), 3);
        Check.marks("undone", x, 0, 0, 8, 23, 24);
        mapWrong(x);
        x.setModulus(12);
        Check.same("equal numbers become one", x.map(1, 0, 0, 3) + x.map(3, 6, 5, 3), 2);
    }

    private static void mapWrong(RulerWorkbench x) {
        Check.index(x, "map from 4", () -> x.map(4, 1, 1, 0));
        Check.index(x, "map to 4", () -> x.map(0, 1, 1, 4));
        Check.index(x, "map to -1, t wrong", () -> x.map(0, -1, 1, -1));
        Check.argument(x, "t = -1", () -> x.map(0, -1, 1, 1));
        Check.argument(x, "t = 1001", () -> x.map(0, 1001, 1, 1));
        Check.argument(x, "s = -1", () -> x.map(0, 1, -1, 1));
        Check.argument(x, "s = 1001", () -> x.map(0, 1, 1001, 1));
        x.clear(1);
        x.add(1, 31);
        Check.state(x, "a mark of 31 modulo 31", () -> x.map(1, 1, 1, 0));
        Check.argument(x, "t is looked at first", () -> x.map(1, 1001, 1, 0));
        Check.same("a mark of 31 where the result goes", x.map(0, 1, 0, 1), 4);
        x.setModulus(1000);
        x.clear(2);
        x.add(2, 999);
        x.map(2, 1000, 1000, 2);
        Check.marks("the greatest numbers", x, 2, 0);
        x.clear(1);
        Check.put(x, 1, 1, 3, 5, 7, 9, 11);
    }

    private static void complement() {
        RulerWorkbench x = Check.with(1, 2, 4);
        x.setModulus(7);
        Check.same("complement(0, 1)", x.complement(0, 1), 4);
        Check.marks("complement", x, 1, 0, 3, 5, 6);
        Check.same("complement(1, 1)", x.complement(1, 1), 3);
        Check.marks("complement twice", x, 1, 1, 2, 4);
        Check.same("complement is undoable", x.undo(), 3);
        Check.marks("undone", x, 1, 0, 3, 5, 6);
        x.setModulus(24);
        Check.same("complement of an empty set", x.complement(3, 2), 24);
        Check.same("complement of all", x.complement(2, 2), 0);
        x.setModulus(25);
        Check.state(x, "25 marks", () -> x.complement(3, 2));
        x.setModulus(28);
        Check.state(x, "25 of 28 marks", () -> x.complement(0, 2));
        x.setModulus(27);
        Check.same("24 of 27 marks", x.complement(0, 2), 24);
        Check.marks("24 of 27", x, 2, 0, 3, 5, 6, 7, 8, 9, 10, 11, 12, 13, 14, 15, 16, 17, 18, 19, 20, 21, 22, 23,
                24, 25, 26);
        x.setModulus(4);
        Check.state(x, "a mark of 4 modulo 4", () -> x.complement(0, 2));
        Check.index(x, "from 4", () -> x.complement(4, 0));
        Check.index(x, "to 4", () -> x.complement(0, 4));
        Check.index(x, "to -1", () -> x.complement(3, -1));
    }

    private static void reflect() {
        RulerWorkbench x = Check.with(5, 6, 9, 2000);
        Check.same("reflect(0, 1)", x.reflect(0, 1), 4);
        Check.marks("reflected", x, 1, 0, 1991, 1994, 1995);
        Check.same("reflect(1, 1)", x.reflect(1, 1), 4);
        Check.marks("reflected twice", x, 1, 0, 1, 4, 1995);
        Check.same("reflect is undoable", x.undo(), 3);
        Check.marks("undone", x, 1, 0, 1991, 1994, 1995);
        Check.same("reflect an empty set", x.reflect(3, 1), 0);
        Check.marks("reflected an empty set", x, 1);
        x.add(2, 77);
        x.reflect(2, 2);
        Check.marks("reflected one mark", x, 2, 0);
        Check.index(x, "from 4", () -> x.reflect(4, 0));
        Check.index(x, "to 4", () -> x.reflect(0, 4));
        Check.index(x, "from -1", () -> x.reflect(-1, 0));
    }

    private static void multipliers() {
        RulerWorkbench x = Check.with(0, 1, 3);
        x.setModulus(7);
        Check.same("0 1 3 modulo 7: 1 2 4", x.multipliers(0), 3);
        Check.same("an empty set: all", x.multipliers(1), 6);
        x.add(1, 5);
        Check.same("one mark: all", x.multipliers(1), 6);
        x.setModulus(8);
        Check.same("0 1 3 modulo 8: 1 3", x.multipliers(0), 2);
        Check.same("one mark modulo 8: 1 3 5 7", x.multipliers(1), 4);
        Check.put(x, 2, 0, 4);
        Check.same("0 4 modulo 8", x.multipliers(2), 4);
        x.setModulus(1000);
        Check.same("an empty set modulo 1000", x.multipliers(3), 400);
        Check.same("two marks modulo 1000: 1 999 and shifts by 250", x.multipliers(2), 8);
        x.setModulus(2);
        Check.same("an empty set modulo 2", x.multipliers(3), 1);
        Check.state(x, "a mark of 3 modulo 2", () -> x.multipliers(0));
        Check.index(x, "no set", () -> x.multipliers(4));
        Check.index(x, "no set below", () -> x.multipliers(-1));
        x.residues(23, 0);
        Check.same("residues of 23", x.multipliers(0), 11);
    }

    private static void canonical() {
        RulerWorkbench x = Check.with(2, 3, 5);
        x.setModulus(7);
        Check.same("canonical(0, 1)", x.canonical(0, 1), 3);
        Check.marks("canonical of 2 3 5", x, 1, 0, 1, 3);
        Check.marks("the set itself stays", x, 0, 2, 3, 5);
        Check.put(x, 2, 0, 2, 5);
        Check.same("canonical(2, 2)", x.canonical(2, 2), 3);
        Check.marks("canonical of 0 2 5", x, 2, 0, 1, 2);
        Check.same("canonical is undoable", x.undo(), 3);
        Check.marks("undone", x, 2, 0, 2, 5);
        Check.state(x, "an empty set", () -> x.canonical(3, 0));
        x.setModulus(5);
        Check.state(x, "a mark of 5 modulo 5", () -> x.canonical(0, 0));
        Check.index(x, "from 4", () -> x.canonical(4, 0));
        Check.index(x, "to 4", () -> x.canonical(3, 4));
        Check.index(x, "to -1", () -> x.canonical(0, -1));
        x.setModulus(12);
        x.clear(0);
        Check.put(x, 0, 2, 6, 11);
        x.canonical(0, 0);
        Check.marks("canonical of 2 6 11 modulo 12", x, 0, 0, 1, 4);
        x.clear(0);
        Check.put(x, 0, 11);
        x.canonical(0, 0);
        Check.marks("canonical of one mark", x, 0, 0);
        x.clear(0);
        Check.put(x, 0, 3, 11);
        x.canonical(0, 0);
        Check.marks("canonical of 3 11 modulo 12", x, 0, 0, 4);
        x.setModulus(11);
        x.clear(0);
        Check.put(x, 0, 0, 1, 2, 4);
        x.canonical(0, 0);
        Check.marks("canonical of a canonical form", x, 0, 0, 1, 2, 4);
    }
}
