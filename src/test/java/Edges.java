/**
 * Calls at the edges that the document names, each on an object of its own; what the document says of it stands ahead.
 * The tests of edges extend it for its names.
 */
class Edges {
    static final int BAD = -2, STATE = -3, FULL = -4, NOTHING = -11, OUTSIDE = -12, UNLIKE = -13, BELOW_ZERO = -14;

    /** Outside of what each of these can be; HEIRS and TEXTS as of Scene.FAMILY. */
    static final int[] NO_HEIR = {-1, 3, 5, 6, Integer.MIN_VALUE, Integer.MAX_VALUE};
    static final int[] NO_SHEET = {-1, 4, Integer.MIN_VALUE, Integer.MAX_VALUE};
    static final int[] NO_TEXT = {-1, 2, 5, 6, Integer.MIN_VALUE, Integer.MAX_VALUE};
    static final int[] NO_NUMBER = {0, 31, -1, 32, 33, 35, 62, -27, Integer.MIN_VALUE, Integer.MAX_VALUE};
    static final int[] NO_SUM = {-1, 100, Integer.MIN_VALUE, Integer.MAX_VALUE};
    static final int[] NO_KIND = {-1, 6, Integer.MIN_VALUE, Integer.MAX_VALUE};
    static final int[] NO_MORE = {-1, 10, Integer.MIN_VALUE, Integer.MAX_VALUE};

    private final Check check = new Check();

    interface Call {
        long on(Counted x);
    }

    interface CallWith {
        long on(Counted x, int v);
    }

    /** Ahead of the call. */
    interface Setting {
        void of(Counted x);
    }

    void due(String sentence, long got, long want) {
        check.due(sentence, got, want);
    }

    /** It is answered, whatever it changes. */
    void answered(String sentence, Scene scene, Call call, long want) {
        check.due(sentence, call.on(scene.make()), want);
    }

    /** It is answered, and nothing that can be seen is otherwise then: a question, or what is refused. */
    void changesNothing(String sentence, Scene scene, Call call, long want) {
        changesNothing(sentence, scene, x -> { }, call, want);
    }

    void changesNothing(String sentence, Scene scene, Setting setting, Call call, long want) {
        Counted asked = scene.make();
        Counted spared = scene.make();
        setting.of(asked);
        setting.of(spared);
        check.due(sentence, call.on(asked), want);
        check.isSo(sentence + ": nothing is otherwise then", Scene.seen(asked).equals(Scene.seen(spared)));
    }

    void changesNothing(String sentence, Scene scene, int[] values, CallWith call, long want) {
        for (int v : values) {
            changesNothing(sentence + ": " + v, scene, x -> call.on(x, v), want);
        }
    }

    /** What a call answers behind a setting. */
    static long ask(Scene scene, Setting setting, Call call) {
        Counted x = scene.make();
        setting.of(x);
        return call.on(x);
    }

    /** HEIRS without KIND or MORE, each with its OWN. */
    static Setting family(int[]... owns) {
        return x -> {
            for (int[] own : owns) {
                Check.heir(x, 0, 0, own);
            }
        };
    }

    static int[] own(int... numbers) {
        return numbers;
    }

    /** The same family, and a TEXT as THE RULE. */
    static Setting rule(Setting family, String text) {
        return x -> {
            family.of(x);
            x.force(Check.text(x, text));
        };
    }

    /** What is just outside of least .. most, and far outside. */
    static int[] whats(int least, int most) {
        return new int[] {least - 1, most + 1, Integer.MIN_VALUE, Integer.MAX_VALUE};
    }

    void close() {
        check.close();
    }
}
