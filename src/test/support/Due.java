import java.util.HashMap;
import java.util.List;
import java.util.Map;
import java.util.function.ToIntFunction;

/** How the tests of the document's boundary sentences hold an answer against the due one. */
final class Due {
    static final int BAD_ARG = -1;
    static final int FULL = -2;
    static final int NONE = -4;
    static final int LEAST = Integer.MIN_VALUE;
    static final int GREATEST = Integer.MAX_VALUE;
    static final int ALL = span(0, 63);

    /** The values just outside first, then those that would pass if only their last bits were looked at. */
    static final int[] NO_COORDINATES = {
        -1, 64, LEAST, GREATEST, -64, -63, 65, 127, 128, 255, 256, 4096, 65536, 65536 + 5, LEAST + 5, GREATEST - 63
    };
    static final int[] NO_WEIGHTS = {
        -1, 100, LEAST, GREATEST, -99, 101, 127, 128, 256, 256 + 50, 65536 + 50, LEAST + 50
    };
    static final int[] NO_SPANS = {
        -1, 4096, LEAST, GREATEST, 1, 63, span(1, 0), span(63, 0), span(32, 31), span(63, 62), -64, -4095, -4096,
        4096 + ALL, 2 * 4096 - 1, ALL - 4096, 65536 + ALL, LEAST + ALL, LEAST + 1, GREATEST - 1, GREATEST - 63
    };

    private static final int SHOWN_OF_EACH = 5;

    private static final Map<State, List<Integer>> UNTOUCHED = new HashMap<>();

    private static String sentence = "";
    private static int sentences = 0;
    private static int wrong = 0;
    private static int wrongInSentence = 0;

    private Due() {
    }

    static int span(int first, int last) {
        return first + 64 * last;
    }

    static int place(int x, int y) {
        return 64 * y + x;
    }

    /** The words are the document's own, so that a failure tells which of its sentences is broken. */
    static void sentence(String where, String words, Runnable test) {
        sentence = where + " \"" + words + "\"";
        sentences++;
        wrongInSentence = 0;
        try {
            test.run();
        } catch (RuntimeException | Error thrown) {
            tell("a call threw " + thrown);
        }
    }

    static void due(String call, int got, int want) {
        if (got != want) {
            tell(call + " answered " + got + ", due is " + want);
        }
    }

    static void holds(String what, boolean so) {
        if (!so) {
            tell(what + " does not hold");
        }
    }

    /** The call answers the code in that state, and the object then shows what one shows that was not called. */
    static void refused(State state, String call, ToIntFunction<BlockKdTrees> made, int code) {
        BlockKdTrees called = state.make();
        due(call + " " + state, made.applyAsInt(called), code);
        changedNothing(state, call, called);
    }

    static void changedNothing(State state, String call, BlockKdTrees called) {
        List<Integer> untouched = UNTOUCHED.computeIfAbsent(state, same -> State.shown(same.make()));
        holds(call + " " + state + " changes nothing", State.shown(called).equals(untouched));
    }

    static void end() {
        System.out.println(sentences + " sentences, " + wrong + " answers that are not due");
        if (wrong != 0) {
            System.exit(1);
        }
    }

    private static void tell(String what) {
        wrong++;
        wrongInSentence++;
        if (wrongInSentence <= SHOWN_OF_EACH) {
            System.out.println(sentence + ": " + what);
        }
    }
}
