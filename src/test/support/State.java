import java.util.ArrayList;
import java.util.List;

/**
 * A state that is told by two numbers: so many points were added, and those before the first one are gone again. Where
 * a point lies and what it weighs follows from its number, so a test knows it without asking.
 */
record State(int added, int first) {
    static final State EMPTY = new State(0, 0);
    static final State ONE = new State(1, 0);
    static final State ONE_GONE = new State(1, 1);
    static final State SOME = new State(9, 3);
    static final State ALMOST_FULL = new State(39, 0);
    static final State FULL = new State(40, 0);
    static final State ALL_BUT_ONE_ADDED = new State(199, 160);
    static final State ALL_ADDED = new State(200, 160);
    static final State ALL_ADDED_FEW_LEFT = new State(200, 197);
    static final State ALL_GONE = new State(200, 200);
    static final State[] EACH = {
        EMPTY, ONE, ONE_GONE, SOME, ALMOST_FULL, FULL, ALL_BUT_ONE_ADDED, ALL_ADDED, ALL_ADDED_FEW_LEFT, ALL_GONE
    };

    private static final int ALL = 64 * 63;

    static int x(int p) {
        return p * 23 % 64;
    }

    static int y(int p) {
        return p * 41 % 64;
    }

    static int weight(int p) {
        return p * 7 % 100;
    }

    static int place(int p) {
        return 64 * y(p) + x(p);
    }

    int size() {
        return added - first;
    }

    boolean isThere(int p) {
        return first <= p && p < added;
    }

    boolean takesMore() {
        return size() < 40 && added < 200;
    }

    /** At most 400 calls, so that at least 112 are left to the test. */
    BlockKdTrees make() {
        BlockKdTrees t = new BlockKdTrees();
        int gone = 0;
        for (int p = 0; p < added; p++) {
            if (p - gone == 40) {
                t.remove(gone);
                gone++;
            }
            t.add(x(p), y(p), weight(p));
        }
        while (gone < first) {
            t.remove(gone);
            gone++;
        }
        return t;
    }

    /** Everything an object shows; it is used up by that, and two objects of one state show the same. */
    static List<Integer> shown(BlockKdTrees t) {
        List<Integer> answers = new ArrayList<>();
        int size = t.size();
        answers.add(size);
        answers.add(t.count(ALL, ALL));
        answers.add(t.weight(ALL, ALL));
        answers.add(t.heaviest(ALL, ALL));
        answers.add(t.nearest(0, 0));
        answers.add(t.near(63, 0, size - 1));
        answers.add(t.within(20, 30, 900));
        answers.add(t.front());
        answers.add(t.closest());
        List<Integer> numbers = new ArrayList<>();
        int p = t.next(ALL, ALL, 0);
        for (int i = 0; i < 40 && p >= 0; i++) {
            numbers.add(p);
            answers.add(t.where(p));
            p = t.next(ALL, ALL, p + 1);
        }
        answers.addAll(numbers);
        answers.add(p);
        int taken = t.add(1, 2, 3);
        for (int i = 0; i < 40 && taken >= 0; i++) {
            answers.add(taken);
            taken = t.add(1, 2, 3);
        }
        answers.add(taken);
        for (int number : numbers) {
            answers.add(t.remove(number));
        }
        answers.add(t.size());
        answers.add(t.add(4, 5, 6));
        return answers;
    }

    @Override
    public String toString() {
        return "after " + added + " adds with " + size() + " left";
    }
}
