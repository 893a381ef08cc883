/** The boundary sentences of promises 7 to 10 and 17, each with a test of its own. */
public final class RectangleEdgesTest {
    private static final String NO_RECTANGLE = "BAD_ARG if columns or lines is none.";
    private static final int[] FROMS = {Due.LEAST, -4, -1, 0, 1, 199, 200, Due.GREATEST};

    public static void main(String[] args) {
        Due.sentence("Promise 7", "How many points lie in the rectangle", RectangleEdgesTest::counts);
        Due.sentence("Promise 7", NO_RECTANGLE, RectangleEdgesTest::countOfNone);
        Due.sentence("Promise 8", "The sum of the weights of the points in the rectangle", RectangleEdgesTest::sums);
        Due.sentence("Promise 8", NO_RECTANGLE, RectangleEdgesTest::weightOfNone);
        Due.sentence("Promise 9", "The point with the greatest weight in the rectangle", RectangleEdgesTest::greatest);
        Due.sentence("Promise 9", "of several the one with the least number", RectangleEdgesTest::leastOfHeaviest);
        Due.sentence("Promise 9", "NONE if no point lies there", RectangleEdgesTest::noHeaviest);
        Due.sentence("Promise 9", NO_RECTANGLE, RectangleEdgesTest::heaviestOfNone);
        Due.sentence("Promise 10", "The least number, from or greater, of a point in the rectangle",
            RectangleEdgesTest::fromOrGreater);
        Due.sentence("Promise 10", "NONE if there is none", RectangleEdgesTest::noNext);
        Due.sentence("Promise 10", NO_RECTANGLE, RectangleEdgesTest::nextOfNone);
        Due.sentence("Promise 17", "heaviest, next, nearest: BAD_ARG is tested before NONE.", RectangleEdgesTest::order);
        Due.sentence("Promise 17", "columns or lines is none if it is not of the form said", RectangleEdgesTest::form);
        Due.sentence("Promise 17", "with both numbers from 0 to 63", RectangleEdgesTest::bothInRange);
        Due.sentence("Promise 17", "the first one at most the second one", RectangleEdgesTest::firstAtMostSecond);
        Due.end();
    }

    /** 0 weighs 3 at (10, 10), 1 weighs 0 at (10, 20), 2 weighs 99 at (20, 10), 3 weighs 99 at (20, 20). */
    private static BlockKdTrees square() {
        BlockKdTrees t = new BlockKdTrees();
        t.add(10, 10, 3);
        t.add(10, 20, 0);
        t.add(20, 10, 99);
        t.add(20, 20, 99);
        return t;
    }

    private static void counts() {
        Due.due("count of the corners", square().count(Due.span(10, 20), Due.span(10, 20)), 4);
        Due.due("count, left side one in", square().count(Due.span(11, 20), Due.span(10, 20)), 2);
        Due.due("count, right side one in", square().count(Due.span(10, 19), Due.span(10, 20)), 2);
        Due.due("count, lower side one in", square().count(Due.span(10, 20), Due.span(11, 20)), 2);
        Due.due("count, upper side one in", square().count(Due.span(10, 20), Due.span(10, 19)), 2);
        Due.due("count, all sides one in", square().count(Due.span(11, 19), Due.span(11, 19)), 0);
        Due.due("count at one place", square().count(Due.span(10, 10), Due.span(20, 20)), 1);
        Due.due("count at no point's place", square().count(Due.span(11, 11), Due.span(20, 20)), 0);
        for (State state : State.EACH) {
            Due.due("count(all) " + state, state.make().count(Due.ALL, Due.ALL), state.size());
        }
        BlockKdTrees t = square();
        t.remove(3);
        t.move(2, 10, 10);
        Due.due("count after remove and move", t.count(Due.span(10, 20), Due.span(10, 20)), 3);
        Due.due("count of two at one place", t.count(Due.span(10, 10), Due.span(10, 10)), 2);
    }

    private static void sums() {
        Due.due("weight of the corners", square().weight(Due.span(10, 20), Due.span(10, 20)), 201);
        Due.due("weight, left side one in", square().weight(Due.span(11, 20), Due.span(10, 20)), 198);
        Due.due("weight, right side one in", square().weight(Due.span(10, 19), Due.span(10, 20)), 3);
        Due.due("weight, lower side one in", square().weight(Due.span(10, 20), Due.span(11, 20)), 99);
        Due.due("weight, upper side one in", square().weight(Due.span(10, 20), Due.span(10, 19)), 102);
        Due.due("weight of no point", square().weight(Due.span(11, 19), Due.span(11, 19)), 0);
        Due.due("weight of a point of weight 0", square().weight(Due.span(10, 10), Due.span(20, 20)), 0);
        BlockKdTrees most = new BlockKdTrees();
        for (int p = 0; p < 40; p++) {
            most.add(p, 63 - p, 99);
        }
        Due.due("the greatest weight of all", most.weight(Due.ALL, Due.ALL), 3960);
        for (State state : State.EACH) {
            int sum = 0;
            for (int p = state.first(); p < state.added(); p++) {
                sum += State.weight(p);
            }
            Due.due("weight(all) " + state, state.make().weight(Due.ALL, Due.ALL), sum);
        }
    }

    private static void countOfNone() {
        for (State state : State.EACH) {
            for (int bad : Due.NO_SPANS) {
                Due.refused(state, "count(" + bad + ", all)", t -> t.count(bad, Due.ALL), Due.BAD_ARG);
                Due.refused(state, "count(all, " + bad + ")", t -> t.count(Due.ALL, bad), Due.BAD_ARG);
                Due.refused(state, "count(" + bad + ", itself)", t -> t.count(bad, bad), Due.BAD_ARG);
            }
        }
    }

    private static void weightOfNone() {
        for (State state : State.EACH) {
            for (int bad : Due.NO_SPANS) {
                Due.refused(state, "weight(" + bad + ", all)", t -> t.weight(bad, Due.ALL), Due.BAD_ARG);
                Due.refused(state, "weight(all, " + bad + ")", t -> t.weight(Due.ALL, bad), Due.BAD_ARG);
                Due.refused(state, "weight(" + bad + ", itself)", t -> t.weight(bad, bad), Due.BAD_ARG);
            }
        }
    }

    private static void greatest() {
        Due.due("heaviest in the left column", square().heaviest(Due.span(10, 19), Due.ALL), 0);
        Due.due("heaviest in the upper line", square().heaviest(Due.ALL, Due.span(11, 20)), 3);
        Due.due("heaviest, the one of weight 0", square().heaviest(Due.span(10, 10), Due.span(20, 20)), 1);
        for (int weight = 1; weight < 100; weight++) {
            BlockKdTrees t = new BlockKdTrees();
            t.add(5, 5, weight - 1);
            t.add(50, 5, weight);
            t.add(5, 50, weight - 1);
            Due.due("heaviest, weight " + weight, t.heaviest(Due.ALL, Due.ALL), 1);
            Due.due("heaviest without it", t.heaviest(Due.span(0, 49), Due.ALL), 0);
        }
        BlockKdTrees late = new BlockKdTrees();
        for (int p = 0; p < 200; p++) {
            late.add(5, 5, p == 199 ? 99 : 98);
            late.remove(p - 39);
        }
        Due.due("heaviest, number 199", late.heaviest(Due.ALL, Due.ALL), 199);
    }

    private static void leastOfHeaviest() {
        Due.due("heaviest of two", square().heaviest(Due.ALL, Due.ALL), 2);
        for (int weight : new int[] {0, 1, 99}) {
            BlockKdTrees t = new BlockKdTrees();
            for (int p = 0; p < 40; p++) {
                t.add(63 - p, p, weight);
            }
            for (int p = 0; p < 40; p++) {
                Due.due("heaviest of " + (40 - p) + " of weight " + weight, t.heaviest(Due.ALL, Due.ALL), p);
                t.remove(p);
            }
        }
        BlockKdTrees t = square();
        t.move(2, 60, 60);
        t.move(3, 0, 0);
        Due.due("heaviest of two that moved", t.heaviest(Due.ALL, Due.ALL), 2);
        t.move(2, 0, 0);
        Due.due("heaviest of two at one place", t.heaviest(0, 0), 2);
        t.remove(2);
        t.add(0, 0, 99);
        Due.due("heaviest with a later one as heavy", t.heaviest(Due.ALL, Due.ALL), 3);
    }

    private static void noHeaviest() {
        for (State state : new State[] {State.EMPTY, State.ONE_GONE, State.ALL_GONE}) {
            Due.refused(state, "heaviest(all)", t -> t.heaviest(Due.ALL, Due.ALL), Due.NONE);
        }
        Due.due("heaviest between the points", square().heaviest(Due.span(11, 19), Due.span(11, 19)), Due.NONE);
        Due.due("heaviest, only x fits", square().heaviest(Due.span(10, 10), Due.span(11, 19)), Due.NONE);
        Due.due("heaviest, only y fits", square().heaviest(Due.span(11, 19), Due.span(10, 10)), Due.NONE);
        BlockKdTrees zero = new BlockKdTrees();
        zero.add(5, 5, 0);
        Due.due("heaviest of one of weight 0", zero.heaviest(Due.ALL, Due.ALL), 0);
        int column = Due.span(State.x(4) + 1, State.x(4) + 1);
        Due.refused(State.SOME, "heaviest beside", t -> t.heaviest(column, Due.span(State.y(4), State.y(4))), Due.NONE);
    }

    private static void heaviestOfNone() {
        for (State state : State.EACH) {
            for (int bad : Due.NO_SPANS) {
                Due.refused(state, "heaviest(" + bad + ", all)", t -> t.heaviest(bad, Due.ALL), Due.BAD_ARG);
                Due.refused(state, "heaviest(all, " + bad + ")", t -> t.heaviest(Due.ALL, bad), Due.BAD_ARG);
                Due.refused(state, "heaviest(" + bad + ", itself)", t -> t.heaviest(bad, bad), Due.BAD_ARG);
            }
        }
    }

    /** No from is refused: below every number it asks for the least one there is. */
    private static void fromOrGreater() {
        for (State state : State.EACH) {
            int least = state.size() > 0 ? state.first() : Due.NONE;
            for (int from : new int[] {Due.LEAST, Due.LEAST + 1, -4096, -200, -4, -2, -1, 0}) {
                Due.due("next(all, " + from + ") " + state, state.make().next(Due.ALL, Due.ALL, from), least);
            }
            BlockKdTrees t = state.make();
            for (int p = state.first(); p < state.added(); p++) {
                Due.due("next(all, " + p + ") " + state, t.next(Due.ALL, Due.ALL, p), p);
            }
        }
        Due.due("next, just past the one", square().next(Due.span(20, 20), Due.ALL, 3), 3);
        Due.due("next, at the one", square().next(Due.span(20, 20), Due.ALL, 2), 2);
        Due.due("next, just before the one", square().next(Due.span(20, 20), Due.ALL, 1), 2);
        Due.due("next, far before the one", square().next(Due.span(20, 20), Due.ALL, Due.LEAST), 2);
        BlockKdTrees t = square();
        t.remove(1);
        Due.due("next from one that is gone", t.next(Due.ALL, Due.ALL, 1), 2);
        t.move(2, 0, 0);
        Due.due("next from one that moved out", t.next(Due.span(10, 20), Due.span(10, 20), 1), 3);
    }

    private static void noNext() {
        for (State state : State.EACH) {
            for (int from : new int[] {state.added(), 200, 201, 256, 65536, Due.GREATEST - 1, Due.GREATEST}) {
                Due.refused(state, "next(all, " + from + ")", t -> t.next(Due.ALL, Due.ALL, from), Due.NONE);
            }
        }
        for (State state : new State[] {State.EMPTY, State.ONE_GONE, State.ALL_GONE}) {
            for (int from : FROMS) {
                Due.refused(state, "next(all, " + from + ")", t -> t.next(Due.ALL, Due.ALL, from), Due.NONE);
            }
        }
        for (int from : FROMS) {
            int middle = Due.span(11, 19);
            Due.due("next between the points from " + from, square().next(middle, middle, from), Due.NONE);
        }
        Due.due("next past the last in the column", square().next(Due.span(10, 10), Due.ALL, 2), Due.NONE);
        BlockKdTrees t = square();
        t.remove(3);
        Due.due("next from the last one, gone", t.next(Due.ALL, Due.ALL, 3), Due.NONE);
    }

    private static void nextOfNone() {
        for (State state : State.EACH) {
            for (int bad : Due.NO_SPANS) {
                for (int from : new int[] {Due.LEAST, 0, Due.GREATEST}) {
                    Due.refused(state, "next(" + bad + ", all, " + from + ")",
                        t -> t.next(bad, Due.ALL, from), Due.BAD_ARG);
                    Due.refused(state, "next(all, " + bad + ", " + from + ")",
                        t -> t.next(Due.ALL, bad, from), Due.BAD_ARG);
                }
            }
        }
    }

    private static void order() {
        for (State state : new State[] {State.EMPTY, State.ONE_GONE, State.ALL_GONE}) {
            for (int bad : Due.NO_SPANS) {
                Due.refused(state, "heaviest(" + bad + ", all)", t -> t.heaviest(bad, Due.ALL), Due.BAD_ARG);
                Due.refused(state, "heaviest(all, " + bad + ")", t -> t.heaviest(Due.ALL, bad), Due.BAD_ARG);
                for (int from : FROMS) {
                    Due.due("next(" + bad + ", all, " + from + ")", state.make().next(bad, Due.ALL, from), Due.BAD_ARG);
                    Due.due("next(all, " + bad + ", " + from + ")", state.make().next(Due.ALL, bad, from), Due.BAD_ARG);
                }
            }
            for (int bad : Due.NO_COORDINATES) {
                Due.refused(state, "nearest(" + bad + ", 5)", t -> t.nearest(bad, 5), Due.BAD_ARG);
                Due.refused(state, "nearest(5, " + bad + ")", t -> t.nearest(5, bad), Due.BAD_ARG);
            }
        }
        int beside = Due.span(9, 9);
        Due.due("heaviest, columns hold no point", square().heaviest(beside, -1), Due.BAD_ARG);
        Due.due("heaviest, lines hold no point", square().heaviest(-1, beside), Due.BAD_ARG);
        Due.due("next, columns hold no point", square().next(beside, -1, 0), Due.BAD_ARG);
        Due.due("next, lines hold no point", square().next(-1, beside, 0), Due.BAD_ARG);
    }

    /** Every number a span can be told by, with all that lie around, in both arguments of all four calls. */
    private static void form() {
        for (int span = -4200; span < 8400; span++) {
            spanInEachCall(span);
        }
    }

    private static void spanInEachCall(int span) {
        boolean good = isSpan(span);
        BlockKdTrees t = new BlockKdTrees();
        t.add(31, 31, 8);
        boolean in = good && span % 64 <= 31 && 31 <= span / 64;
        int counted = !good ? Due.BAD_ARG : in ? 1 : 0;
        int weighed = !good ? Due.BAD_ARG : in ? 8 : 0;
        int found = !good ? Due.BAD_ARG : in ? 0 : Due.NONE;
        Due.due("count(" + span + ", all)", t.count(span, Due.ALL), counted);
        Due.due("count(all, " + span + ")", t.count(Due.ALL, span), counted);
        Due.due("weight(" + span + ", all)", t.weight(span, Due.ALL), weighed);
        Due.due("weight(all, " + span + ")", t.weight(Due.ALL, span), weighed);
        Due.due("heaviest(" + span + ", all)", t.heaviest(span, Due.ALL), found);
        Due.due("heaviest(all, " + span + ")", t.heaviest(Due.ALL, span), found);
        Due.due("next(" + span + ", all, 0)", t.next(span, Due.ALL, 0), found);
        Due.due("next(all, " + span + ", 0)", t.next(Due.ALL, span, 0), found);
    }

    private static boolean isSpan(int code) {
        for (int first = 0; first < 64; first++) {
            if ((code - first) % 64 == 0 && first <= (code - first) / 64 && (code - first) / 64 < 64) {
                return true;
            }
        }
        return false;
    }

    private static void bothInRange() {
        for (int good : new int[] {0, Due.span(0, 63), Due.span(63, 63), Due.span(0, 1), Due.span(62, 63)}) {
            Due.due("count(" + good + ", all) of no point", new BlockKdTrees().count(good, Due.ALL), 0);
            Due.due("count(all, " + good + ") of no point", new BlockKdTrees().count(Due.ALL, good), 0);
        }
        int[] outside = {
            Due.span(0, 64), Due.span(63, 64), Due.span(0, 65), Due.span(-1, 0), Due.span(-1, -1), Due.span(0, -1),
            Due.span(64, 63), Due.span(64, 64), Due.span(0, 1 << 24), Due.span(5, 1 << 25), Due.LEAST, Due.GREATEST
        };
        for (int bad : outside) {
            Due.due("count(" + bad + ", all)", square().count(bad, Due.ALL), Due.BAD_ARG);
            Due.due("count(all, " + bad + ")", square().count(Due.ALL, bad), Due.BAD_ARG);
            Due.due("weight(" + bad + ", all)", square().weight(bad, Due.ALL), Due.BAD_ARG);
            Due.due("weight(all, " + bad + ")", square().weight(Due.ALL, bad), Due.BAD_ARG);
            Due.due("heaviest(" + bad + ", all)", square().heaviest(bad, Due.ALL), Due.BAD_ARG);
            Due.due("heaviest(all, " + bad + ")", square().heaviest(Due.ALL, bad), Due.BAD_ARG);
            Due.due("next(" + bad + ", all, 0)", square().next(bad, Due.ALL, 0), Due.BAD_ARG);
            Due.due("next(all, " + bad + ", 0)", square().next(Due.ALL, bad, 0), Due.BAD_ARG);
        }
    }

    private static void firstAtMostSecond() {
        for (int first = 0; first < 64; first++) {
            for (int last = 0; last < 64; last++) {
                int span = Due.span(first, last);
                int due = first <= last ? 0 : Due.BAD_ARG;
                Due.due("count(" + span + ", all) of no point", new BlockKdTrees().count(span, Due.ALL), due);
                Due.due("count(all, " + span + ") of no point", new BlockKdTrees().count(Due.ALL, span), due);
                Due.due("weight(" + span + ", all) of no point", new BlockKdTrees().weight(span, Due.ALL), due);
                Due.due("weight(all, " + span + ") of no point", new BlockKdTrees().weight(Due.ALL, span), due);
                int found = first <= last ? Due.NONE : Due.BAD_ARG;
                Due.due("heaviest(" + span + ", all) of no point", new BlockKdTrees().heaviest(span, Due.ALL), found);
                Due.due("heaviest(all, " + span + ") of no point", new BlockKdTrees().heaviest(Due.ALL, span), found);
                Due.due("next(" + span + ", all, 0) of no point", new BlockKdTrees().next(span, Due.ALL, 0), found);
                Due.due("next(all, " + span + ", 0) of no point", new BlockKdTrees().next(Due.ALL, span, 0), found);
            }
        }
    }
}
