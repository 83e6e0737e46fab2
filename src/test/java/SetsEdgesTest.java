/** The boundaries that promises 1 to 8 and 'SETS' name; each case begins with the sentence that it is about. */
public final class SetsEdgesTest {
    public static void main(String[] args) {
        newObject();
        addRange();
        addFull();
        addNumber();
        addOrder();
        remove();
        removeWrong();
        clear();
        copy();
        size();
        mark();
        markLeftBehind();
        length();
        Check.end("SetsEdgesTest");
    }

    private static Scene full() {
        return Scene.with(Scene.steps(24, 1, 2));
    }

    private static void newObject() {
        String sentence = "'four empty sets, the modulus 31 and an empty undo stack': ";
        for (int set = 0; set < 4; set++) {
            int here = set;
            Scene.fresh().tells(sentence + "size", 0, x -> x.size(here));
            Scene.fresh().refuses(sentence + "mark", Scene.INDEX, x -> x.mark(here, 0));
        }
        Scene.fresh().saves(sentence + "modulus", 31, x -> x.setModulus(31));
        Scene.fresh().refuses(sentence + "undo", Scene.STATE, x -> x.undo());
        RulerWorkbench used = Scene.busy().bench();
        RulerWorkbench other = new RulerWorkbench();
        Check.same(sentence + "also beside a used object", other.digest(), Scene.fresh().bench().digest());
        other.add(3, 9);
        Check.same("an object has its own sets", used.size(3), 0);
        Check.same("'NONE = -1'", RulerWorkbench.NONE, -1);
    }

    private static void addRange() {
        String sentence = "'mark: 0 to 2000': add";
        Scene.busy().range(sentence, Scene.ARGUMENT, 0, 2000, (x, mark) -> x.add(3, mark));
        Scene.fresh().range(sentence, Scene.ARGUMENT, 0, 2000, (x, mark) -> x.add(0, mark));
        Scene.busy().makes(sentence + " 0", 0, x -> x.add(3, 0), 3, 0);
        Scene.busy().makes(sentence + " 2000", 0, x -> x.add(3, 2000), 3, 2000);
        Scene.busy().makes("a mark may be as great as the modulus, or greater", 1, x -> x.add(2, 13), 2, 12, 13);
    }

    private static void addFull() {
        Scene almost = Scene.with(Scene.steps(23, 1, 2));
        almost.makes("'at most 24 marks': the 24th", 23, x -> x.add(0, 47), 0, Scene.steps(24, 1, 2));
        String sentence = "'or has 24 marks': add";
        for (int fresh : new int[] {0, 2, 24, 48, 2000}) {
            full().refuses(sentence + " " + fresh, Scene.STATE, x -> x.add(0, fresh));
        }
        full().refuses(sentence + " the first mark again", Scene.STATE, x -> x.add(0, 1));
        full().refuses(sentence + " the last mark again", Scene.STATE, x -> x.add(0, 47));
        full().answers("another set is not full", 0, x -> x.add(1, 1));
        full().answers("a mark less, and it is taken", 0, x -> {
            x.remove(0, 25);
            return x.add(0, 0);
        });
    }

    private static void addNumber() {
        String sentence = "'Returns the number of the mark in the set': ";
        Scene.fresh().makes(sentence + "an empty set", 0, x -> x.add(0, 1000), 0, 1000);
        Scene.with(1000).makes(sentence + "below one mark", 0, x -> x.add(0, 999), 0, 999, 1000);
        Scene.with(1000).makes(sentence + "above one mark", 1, x -> x.add(0, 1001), 0, 1000, 1001);
        Scene.with(0, 2000).makes(sentence + "between", 1, x -> x.add(0, 1), 0, 0, 1, 2000);
        Scene.with(0, 2000).makes(sentence + "between", 1, x -> x.add(0, 1999), 0, 0, 1999, 2000);
        Scene almost = Scene.with(Scene.steps(23, 1, 2));
        almost.answers(sentence + "the 24th, first", 0, x -> x.add(0, 0));
        almost.answers(sentence + "the 24th, second", 1, x -> x.add(0, 2));
        almost.answers(sentence + "the 24th, last but one", 22, x -> x.add(0, 44));
        almost.answers(sentence + "the 24th, last", 23, x -> x.add(0, 2000));
    }

    private static void addOrder() {
        String has = "'if the set has this mark already': ";
        Scene.with(0).refuses(has + "0", Scene.STATE, x -> x.add(0, 0));
        Scene.with(2000).refuses(has + "2000", Scene.STATE, x -> x.add(0, 2000));
        Scene.busy().refuses(has + "in the middle", Scene.STATE, x -> x.add(0, 4));
        Scene.busy().answers("another set may have the mark", 3, x -> x.add(1, 6));
        String first = "'the one that is listed first': a full set and the mark ";
        for (int wrong : new int[] {-1, 2001, Integer.MIN_VALUE, Integer.MAX_VALUE}) {
            full().refuses(first + wrong, Scene.ARGUMENT, x -> x.add(0, wrong));
        }
    }

    private static void remove() {
        String sentence = "'Returns the number of marks that are left': ";
        Scene.with(0).makes(sentence + "the only mark", 0, x -> x.remove(0, 0), 0);
        Scene.with(2000).makes(sentence + "the only mark", 0, x -> x.remove(0, 2000), 0);
        Scene.with(0, 2000).makes(sentence + "the first", 1, x -> x.remove(0, 0), 0, 2000);
        Scene.with(0, 2000).makes(sentence + "the last", 1, x -> x.remove(0, 2000), 0, 0);
        full().makes(sentence + "of 24, the last", 23, x -> x.remove(0, 47), 0, Scene.steps(23, 1, 2));
        full().makes(sentence + "of 24, the first", 23, x -> x.remove(0, 1), 0, Scene.steps(23, 3, 2));
    }

    private static void removeWrong() {
        String sentence = "'if the set does not have this mark': ";
        for (int mark : new int[] {Integer.MIN_VALUE, -1, 0, 2, 24, 46, 48, 2000, 2001, Integer.MAX_VALUE}) {
            full().refuses(sentence + "24 marks, " + mark, Scene.STATE, x -> x.remove(0, mark));
            Scene.fresh().refuses(sentence + "an empty set, " + mark, Scene.STATE, x -> x.remove(0, mark));
            Scene.busy().refuses(sentence + "one mark, " + mark, Scene.STATE, x -> x.remove(2, mark));
        }
        Scene.busy().refuses(sentence + "another set has it", Scene.STATE, x -> x.remove(1, 6));
        Scene removed = new Scene(x -> {
            Check.put(x, 0, 1, 3, 5);
            x.remove(0, 5);
        });
        removed.refuses(sentence + "it was removed", Scene.STATE, x -> x.remove(0, 5));
    }

    private static void clear() {
        String sentence = "'Returns the number of marks that it had': ";
        Scene.fresh().savesUnchanged(sentence + "0", 0, x -> x.clear(0));
        Scene.busy().savesUnchanged(sentence + "0", 0, x -> x.clear(3));
        Scene.busy().makes(sentence + "1", 1, x -> x.clear(2), 2);
        full().makes(sentence + "24", 24, x -> x.clear(0), 0);
    }

    private static void copy() {
        String sentence = "'Returns the number of marks': copy of ";
        Scene.busy().makes(sentence + "0", 0, x -> x.copy(3, 0), 0);
        Scene.busy().makes(sentence + "1", 1, x -> x.copy(2, 0), 0, 12);
        full().makes(sentence + "24", 24, x -> x.copy(0, 3), 3, Scene.steps(24, 1, 2));
        full().makes(sentence + "0 to a full set", 0, x -> x.copy(1, 0), 0);
        String same = "'possibly the same': copy of ";
        Scene.fresh().savesUnchanged(same + "0", 0, x -> x.copy(2, 2));
        Scene.busy().savesUnchanged(same + "4", 4, x -> x.copy(0, 0));
        full().savesUnchanged(same + "24", 24, x -> x.copy(0, 0));
        RulerWorkbench x = full().bench();
        x.copy(0, 1);
        x.clear(0);
        Check.marks("a copy stays when its source is changed", x, 1, Scene.steps(24, 1, 2));
    }

    private static void size() {
        String sentence = "'Returns 0 to 24': ";
        Scene.busy().tells(sentence + "0", 0, x -> x.size(3));
        Scene.busy().tells(sentence + "1", 1, x -> x.size(2));
        full().tells(sentence + "24", 24, x -> x.size(0));
    }

    private static void mark() {
        String sentence = "'no such mark': ";
        full().range(sentence + "24 marks", Scene.INDEX, 0, 23, (x, index) -> x.mark(0, index));
        Scene.busy().range(sentence + "4 marks", Scene.INDEX, 0, 3, (x, index) -> x.mark(0, index));
        Scene.busy().range(sentence + "one mark", Scene.INDEX, 0, 0, (x, index) -> x.mark(2, index));
        for (int index : new int[] {Integer.MIN_VALUE, -1, 0, 1, 23, 24, Integer.MAX_VALUE}) {
            Scene.busy().refuses(sentence + "an empty set, " + index, Scene.INDEX, x -> x.mark(3, index));
        }
        String order = "'numbered from 0 in ascending order': ";
        Scene backwards = Scene.with(Scene.steps(24, 2000, -80));
        for (int i = 0; i < 24; i++) {
            int index = i;
            backwards.answers(order + "mark " + i, 160 + 80 * i, x -> x.mark(0, index));
        }
        Scene.with(2000, 0).tells(order + "the least mark", 0, x -> x.mark(0, 0));
        Scene.with(2000, 0).tells(order + "the greatest mark", 2000, x -> x.mark(0, 1));
    }

    private static void markLeftBehind() {
        String sentence = "'no such mark': a mark that was there before, ";
        new Scene(x -> {
            Check.put(x, 0, Scene.steps(24, 1, 2));
            x.remove(0, 1);
        }).refuses(sentence + "remove", Scene.INDEX, x -> x.mark(0, 23));
        new Scene(x -> {
            Check.put(x, 0, Scene.steps(24, 1, 2));
            x.clear(0);
        }).refuses(sentence + "clear", Scene.INDEX, x -> x.mark(0, 0));
        new Scene(x -> {
            Check.put(x, 0, 5);
            x.undo();
        }).refuses(sentence + "undo", Scene.INDEX, x -> x.mark(0, 0));
    }

    private static void length() {
        String sentence = "'(0 if it has fewer than two marks)': ";
        Scene.fresh().tells(sentence + "none", 0, x -> x.length(0));
        Scene.with(0).tells(sentence + "one", 0, x -> x.length(0));
        Scene.with(1).tells(sentence + "one", 0, x -> x.length(0));
        Scene.with(2000).tells(sentence + "one", 0, x -> x.length(0));
        String greatest = "'its greatest mark minus its least one': ";
        Scene.with(1999, 2000).tells(greatest + "the least", 1, x -> x.length(0));
        Scene.with(0, 2000).tells(greatest + "the greatest", 2000, x -> x.length(0));
        Scene.with(1, 2000).tells(greatest + "not from 0", 1999, x -> x.length(0));
        Scene.with(7, 2, 5).tells(greatest + "three marks", 5, x -> x.length(0));
        full().tells(greatest + "24 marks", 46, x -> x.length(0));
    }
}
