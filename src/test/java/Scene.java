import java.util.ArrayList;
import java.util.List;

/**
 * A workbench that can be set up again and again. So a call's whole effect can be told, what it does to the saved
 * states too: a digest only tells how many there are, and a full stack that lost its oldest state has as many as before.
 */
final class Scene {
    /** The calls that a scene begins with. */
    interface Setup {
        void on(RulerWorkbench x);
    }

    /** A call whose answer is looked at; a boolean counts 1 or 0. */
    interface Call {
        long on(RulerWorkbench x);
    }

    /** A call with one argument left open. */
    interface Open {
        long on(RulerWorkbench x, int argument);
    }

    static final Class<?> INDEX = IndexOutOfBoundsException.class;
    static final Class<?> ARGUMENT = IllegalArgumentException.class;
    static final Class<?> STATE = IllegalStateException.class;

    // More than any stack may hold, so that telling a story ends also with a broken undo.
    private static final int MOST_UNDONE = 8;

    private final Setup setup;

    Scene(Setup setup) {
        this.setup = setup;
    }

    /** A new object: four empty sets, the modulus 31, an empty stack. */
    static Scene fresh() {
        return new Scene(x -> { });
    }

    /** Set 0 has these marks; the modulus stays 31. */
    static Scene with(int... marks) {
        return new Scene(x -> Check.put(x, 0, marks));
    }

    /** Set 0 has these marks, and the modulus is m. */
    static Scene modulo(int m, int... marks) {
        return new Scene(x -> {
            Check.put(x, 0, marks);
            x.setModulus(m);
        });
    }

    /** A full stack of four different states; a ruler, a set that is none, one mark, an empty set; the modulus 13. */
    static Scene busy() {
        return new Scene(x -> {
            Check.put(x, 0, 0, 1, 4, 6);
            Check.put(x, 1, 0, 2, 4);
            x.setModulus(13);
            Check.put(x, 2, 12);
        });
    }

    /** n marks, each one greater by step than the one before it. */
    static int[] steps(int n, int first, int step) {
        int[] marks = new int[n];
        for (int i = 0; i < n; i++) {
            marks[i] = first + i * step;
        }
        return marks;
    }

    RulerWorkbench bench() {
        RulerWorkbench x = new RulerWorkbench();
        setup.on(x);
        return x;
    }

    /** The answer, or the name of the exception. */
    static String outcome(RulerWorkbench x, Call call) {
        try {
            return String.valueOf(call.on(x));
        } catch (RuntimeException e) {
            return e.getClass().getName();
        }
    }

    static String setText(RulerWorkbench x, int set) {
        StringBuilder text = new StringBuilder("{");
        for (int i = 0; i < x.size(set); i++) {
            text.append(i == 0 ? "" : " ").append(x.mark(set, i));
        }
        return text.append("}").toString();
    }

    /** The sets and the modulus; this spends the object, as the modulus is told by setting another one. */
    static String stateText(RulerWorkbench x) {
        StringBuilder text = new StringBuilder();
        for (int set = 0; set < 4; set++) {
            text.append(setText(x, set)).append(" ");
        }
        return text.append("modulo ").append(x.setModulus(2)).toString();
    }

    /** The state behind a call, then the saved states from the latest one down. */
    private List<String> story(Call call) {
        List<String> states = new ArrayList<>();
        for (int undone = 0; undone < MOST_UNDONE; undone++) {
            RulerWorkbench x = bench();
            outcome(x, call);
            try {
                for (int i = 0; i < undone; i++) {
                    x.undo();
                }
            } catch (IllegalStateException e) {
                return states;
            }
            states.add(stateText(x));
        }
        return states;
    }

    private List<String> storyBefore() {
        return story(x -> 0);
    }

    /** The call answers this; what it does is not looked at. */
    void answers(String sentence, long due, Call call) {
        Check.text(sentence, outcome(bench(), call), String.valueOf(due));
    }

    /** The call answers this, changes nothing and saves nothing. */
    void tells(String sentence, long due, Call call) {
        answers(sentence, due, call);
        Check.text(sentence + ": nothing is changed", story(call).toString(), storyBefore().toString());
    }

    /** The call throws just this class, not one below it, and changes nothing. */
    void refuses(String sentence, Class<?> due, Call call) {
        Check.text(sentence, outcome(bench(), call), due.getName());
        Check.text(sentence + ": nothing is changed", story(call).toString(), storyBefore().toString());
    }

    /** The call answers this, and just the state from before it is saved, over at most three older ones. */
    void saves(String sentence, long due, Call call) {
        answers(sentence, due, call);
        List<String> saved = storyBefore();
        List<String> got = story(call);
        String top = got.isEmpty() ? "" : got.remove(0);
        Check.text(sentence + ": behind " + top + " are saved", got.toString(),
                saved.subList(0, Math.min(saved.size(), 4)).toString());
    }

    /** The call answers this, saves the state from before it, and leaves the set with these marks. */
    void makes(String sentence, long due, Call call, int set, int... marks) {
        saves(sentence, due, call);
        RulerWorkbench x = bench();
        outcome(x, call);
        Check.marks(sentence, x, set, marks);
    }

    /** As makes, and the state behind the call is the one before it. */
    void savesUnchanged(String sentence, long due, Call call) {
        saves(sentence, due, call);
        Check.text(sentence + ": it changes nothing", story(call).get(0), storyBefore().get(0));
    }

    /** The call leaves this modulus. */
    void leavesModulus(String sentence, int due, Call call) {
        RulerWorkbench x = bench();
        outcome(x, call);
        Check.same(sentence + ": modulus", x.setModulus(2), due);
    }

    /** Takes the ends of a range, and refuses their neighbours outside, the least int and the greatest one. */
    void range(String sentence, Class<?> due, int low, int high, Open call) {
        takes(sentence, low, call);
        takes(sentence, high, call);
        for (int outside : new int[] {low - 1, high + 1, Integer.MIN_VALUE, Integer.MAX_VALUE}) {
            refuses(sentence + ", here " + outside, due, x -> call.on(x, outside));
        }
    }

    void takes(String sentence, int inside, Open call) {
        String got = outcome(bench(), x -> call.on(x, inside));
        Check.no(sentence + ", here " + inside + ", answered " + got, got.contains("Exception"));
    }
}
