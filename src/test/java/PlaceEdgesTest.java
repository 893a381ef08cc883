/** The boundary sentences of promises 11 to 15, each with a test of its own. */
public final class PlaceEdgesTest {
    private static final int FARTHEST = 63 * 63 + 63 * 63;

    public static void main(String[] args) {
        Due.sentence("Promise 11", "The point with the least distance from (a, b)", PlaceEdgesTest::leastDistance);
        Due.sentence("Promise 11", "of several the one with the least number", PlaceEdgesTest::leastOfNearest);
        Due.sentence("Promise 11", "NONE if there is no point", PlaceEdgesTest::noNearest);
        Due.sentence("Promise 11", "BAD_ARG if a or b is not 0 to 63.", PlaceEdgesTest::nearestOutOfRange);
        Due.sentence("Promise 12", "The k-th (0 is the first) of the points ordered by their distance from (a, b)",
            PlaceEdgesTest::byDistance);
        Due.sentence("Promise 12", "then by their numbers", PlaceEdgesTest::thenByNumber);
        Due.sentence("Promise 12", "NONE if there is none, k < 0 too.", PlaceEdgesTest::noNear);
        Due.sentence("Promise 12", "Tested first: a or b not 0 to 63 answers BAD_ARG.", PlaceEdgesTest::nearOutOfRange);
        Due.sentence("Promise 13", "How many points have a distance of at most d from (a, b)", PlaceEdgesTest::atMost);
        Due.sentence("Promise 13", "BAD_ARG if a or b is not 0 to 63.", PlaceEdgesTest::withinOutOfRange);
        Due.sentence("Promise 14", "How many points are there that no other point BEATS", PlaceEdgesTest::unbeaten);
        Due.sentence("Promise 14", "its x and its y are both at least as great", PlaceEdgesTest::bothAsGreat);
        Due.sentence("Promise 14", "and one of them greater", PlaceEdgesTest::oneGreater);
        Due.sentence("Promise 15", "The least distance of two different points", PlaceEdgesTest::leastOfTwo);
        Due.sentence("Promise 15", "NONE if there are fewer than two.", PlaceEdgesTest::fewerThanTwo);
        Due.sentence("Not promised", "the answers and state changes described above", PlaceEdgesTest::questions);
        Due.end();
    }

    private static BlockKdTrees at(int... places) {
        BlockKdTrees t = new BlockKdTrees();
        for (int i = 0; i + 1 < places.length; i += 2) {
            t.add(places[i], places[i + 1], 1);
        }
        return t;
    }

    private static void leastDistance() {
        Due.due("nearest, 1 against 2", at(6, 6, 5, 6).nearest(5, 5), 1);
        Due.due("nearest, 0 against 1", at(5, 6, 5, 5).nearest(5, 5), 1);
        Due.due("nearest, 49 against 50", at(12, 6, 5, 12).nearest(5, 5), 1);
        Due.due("nearest, squares and not sums", at(0, 10, 6, 6).nearest(0, 0), 1);
        Due.due("nearest, squares and not the greater side", at(6, 6, 0, 8).nearest(0, 0), 1);
        Due.due("nearest, on the lower side", at(63, 63, 0, 0).nearest(31, 31), 1);
        Due.due("nearest, on the upper side", at(0, 0, 63, 63).nearest(32, 32), 1);
        Due.due("nearest the far corner", at(0, 0).nearest(63, 63), 0);
        Due.due("nearest, x and y apart", at(50, 10, 10, 50).nearest(10, 49), 1);
        BlockKdTrees t = at(5, 5, 6, 6);
        t.move(0, 60, 60);
        Due.due("nearest after a move", t.nearest(5, 5), 1);
        t.remove(1);
        Due.due("nearest after a remove", t.nearest(5, 5), 0);
        Due.due("nearest, number 199", State.ALL_ADDED.make().nearest(State.x(199), State.y(199)), 199);
    }

    private static void leastOfNearest() {
        Due.due("nearest of two at one place", at(9, 9, 5, 5, 5, 5).nearest(5, 5), 1);
        Due.due("nearest of two on both sides", at(60, 60, 6, 5, 4, 5).nearest(5, 5), 1);
        Due.due("nearest of two on both sides, the other way", at(60, 60, 4, 5, 6, 5).nearest(5, 5), 1);
        Due.due("nearest of (3, 4) and (5, 0)", at(3, 4, 5, 0).nearest(0, 0), 0);
        Due.due("nearest of (5, 0) and (3, 4)", at(5, 0, 3, 4).nearest(0, 0), 0);
        BlockKdTrees t = new BlockKdTrees();
        for (int p = 0; p < 40; p++) {
            t.add(63, 63, 40 - p);
        }
        for (int p = 0; p < 40; p++) {
            Due.due("nearest of " + (40 - p) + " at one place", t.nearest(0, 0), p);
            t.remove(p);
        }
        BlockKdTrees moved = at(60, 60, 5, 5);
        moved.move(0, 5, 5);
        Due.due("nearest, the least number came last", moved.nearest(5, 5), 0);
    }

    private static void noNearest() {
        for (State state : new State[] {State.EMPTY, State.ONE_GONE, State.ALL_GONE}) {
            for (int edge : new int[] {0, 63}) {
                Due.refused(state, "nearest(" + edge + ", 5)", t -> t.nearest(edge, 5), Due.NONE);
                Due.refused(state, "nearest(5, " + edge + ")", t -> t.nearest(5, edge), Due.NONE);
            }
        }
        Due.due("nearest of one", at(0, 0).nearest(0, 0), 0);
    }

    private static void nearestOutOfRange() {
        for (int edge : new int[] {0, 63}) {
            Due.due("nearest(" + edge + ", 5)", at(5, 5).nearest(edge, 5), 0);
            Due.due("nearest(5, " + edge + ")", at(5, 5).nearest(5, edge), 0);
        }
        for (State state : State.EACH) {
            for (int bad : Due.NO_COORDINATES) {
                Due.refused(state, "nearest(" + bad + ", 5)", t -> t.nearest(bad, 5), Due.BAD_ARG);
                Due.refused(state, "nearest(5, " + bad + ")", t -> t.nearest(5, bad), Due.BAD_ARG);
                Due.refused(state, "nearest(" + bad + ", itself)", t -> t.nearest(bad, bad), Due.BAD_ARG);
            }
        }
    }

    private static void byDistance() {
        BlockKdTrees line = new BlockKdTrees();
        for (int p = 0; p < 40; p++) {
            line.add(p * 7 % 40, 5, 1);
        }
        for (int k = 0; k < 40; k++) {
            Due.due("near(0, 5, " + k + ") of 40", line.near(0, 5, k), k * 23 % 40);
            Due.due("near(63, 5, " + k + ") of 40", line.near(63, 5, k), (39 - k) * 23 % 40);
        }
        Due.due("near, k 0 of 25, 26, 50", at(5, 5, 5, 0, 5, 1).near(0, 0, 0), 1);
        Due.due("near, k 1 of 25, 26, 50", at(5, 5, 5, 0, 5, 1).near(0, 0, 1), 2);
        Due.due("near, k 2 of 25, 26, 50", at(5, 5, 5, 0, 5, 1).near(0, 0, 2), 0);
        BlockKdTrees t = at(1, 0, 2, 0, 3, 0);
        t.remove(1);
        Due.due("near, k 1 with one gone", t.near(0, 0, 1), 2);
        t.move(2, 0, 0);
        Due.due("near, k 1 with one moved", t.near(0, 0, 1), 0);
    }

    private static void thenByNumber() {
        BlockKdTrees t = at(10, 12, 12, 10, 10, 8, 8, 10, 10, 10, 10, 10, 13, 10);
        int[] due = {4, 5, 0, 1, 2, 3, 6};
        for (int k = 0; k < due.length; k++) {
            Due.due("near(10, 10, " + k + ")", t.near(10, 10, k), due[k]);
        }
        t.move(0, 10, 10);
        t.move(5, 8, 10);
        int[] moved = {0, 4, 1, 2, 3, 5, 6};
        for (int k = 0; k < moved.length; k++) {
            Due.due("near(10, 10, " + k + ") after moves", t.near(10, 10, k), moved[k]);
        }
        BlockKdTrees one = new BlockKdTrees();
        for (int p = 0; p < 40; p++) {
            one.add(20, 20, 40 - p);
        }
        for (int k = 0; k < 40; k++) {
            Due.due("near of 40 at one place, k " + k, one.near(63, 0, k), k);
        }
    }

    private static void noNear() {
        for (State state : State.EACH) {
            int size = state.size();
            for (int k : new int[] {-1, -2, Due.LEAST, Due.LEAST + 1, size, size + 1, 200, Due.GREATEST}) {
                Due.refused(state, "near(5, 5, " + k + ")", t -> t.near(5, 5, k), Due.NONE);
            }
            if (size > 0) {
                Due.holds("near, the first, is there " + state, state.isThere(state.make().near(5, 5, 0)));
                Due.holds("near, the last, is there " + state, state.isThere(state.make().near(5, 5, size - 1)));
            }
        }
    }

    private static void nearOutOfRange() {
        for (int edge : new int[] {0, 63}) {
            Due.due("near(" + edge + ", 5, 0)", at(5, 5).near(edge, 5, 0), 0);
            Due.due("near(5, " + edge + ", 0)", at(5, 5).near(5, edge, 0), 0);
        }
        for (State state : State.EACH) {
            for (int bad : Due.NO_COORDINATES) {
                for (int k : new int[] {0, -1, state.size(), Due.LEAST, Due.GREATEST}) {
                    Due.refused(state, "near(" + bad + ", 5, " + k + ")", t -> t.near(bad, 5, k), Due.BAD_ARG);
                    Due.refused(state, "near(5, " + bad + ", " + k + ")", t -> t.near(5, bad, k), Due.BAD_ARG);
                }
            }
        }
    }

    private static void atMost() {
        int[] distances = {0, 1, 4, 9, 25, 3969};
        int[] offsets = {0, 1, 2, 3, 5, 63};
        for (int i = 0; i < distances.length; i++) {
            BlockKdTrees t = at(offsets[i], 0);
            Due.due("within, one less than " + distances[i], t.within(0, 0, distances[i] - 1), 0);
            Due.due("within, at " + distances[i], t.within(0, 0, distances[i]), 1);
            Due.due("within, one more than " + distances[i], t.within(0, 0, distances[i] + 1), 1);
        }
        Due.due("within, one less than the farthest", at(63, 63).within(0, 0, FARTHEST - 1), 0);
        Due.due("within, the farthest", at(63, 63).within(0, 0, FARTHEST), 1);
        for (State state : State.EACH) {
            for (int d : new int[] {FARTHEST, Due.GREATEST - 1, Due.GREATEST}) {
                Due.due("within(5, 5, " + d + ") " + state, state.make().within(5, 5, d), state.size());
            }
            for (int d : new int[] {-1, -2, Due.LEAST + 1, Due.LEAST}) {
                Due.due("within(5, 5, " + d + ") " + state, state.make().within(5, 5, d), 0);
            }
        }
        BlockKdTrees t = at(10, 10, 10, 10, 13, 14, 5, 10, 10, 16);
        Due.due("within(10, 10, 0)", t.within(10, 10, 0), 2);
        Due.due("within(10, 10, 24)", t.within(10, 10, 24), 2);
        Due.due("within(10, 10, 25)", t.within(10, 10, 25), 4);
        Due.due("within(10, 10, 36)", t.within(10, 10, 36), 5);
        t.remove(2);
        t.move(3, 60, 60);
        Due.due("within after remove and move", t.within(10, 10, 25), 2);
    }

    private static void withinOutOfRange() {
        for (int edge : new int[] {0, 63}) {
            Due.due("within(" + edge + ", 5, most)", at(5, 5).within(edge, 5, Due.GREATEST), 1);
            Due.due("within(5, " + edge + ", most)", at(5, 5).within(5, edge, Due.GREATEST), 1);
        }
        for (State state : State.EACH) {
            for (int bad : Due.NO_COORDINATES) {
                for (int d : new int[] {0, -1, Due.LEAST, Due.GREATEST}) {
                    Due.refused(state, "within(" + bad + ", 5, " + d + ")", t -> t.within(bad, 5, d), Due.BAD_ARG);
                    Due.refused(state, "within(5, " + bad + ", " + d + ")", t -> t.within(5, bad, d), Due.BAD_ARG);
                }
            }
        }
    }

    private static void unbeaten() {
        Due.due("front() of none", new BlockKdTrees().front(), 0);
        Due.due("front() of one gone", State.ONE_GONE.make().front(), 0);
        Due.due("front() of one at (0, 0)", at(0, 0).front(), 1);
        Due.due("front() of one at (63, 63)", at(63, 63).front(), 1);
        BlockKdTrees falling = new BlockKdTrees();
        BlockKdTrees rising = new BlockKdTrees();
        for (int p = 0; p < 40; p++) {
            falling.add(p, 63 - p, p);
            rising.add(p, p, 99 - p);
        }
        Due.due("front() of 40 that fall", falling.front(), 40);
        Due.due("front() of 40 that rise", rising.front(), 1);
        rising.remove(39);
        Due.due("front() without the one that beat all", rising.front(), 1);
        rising.move(0, 63, 0);
        Due.due("front() with one moved beside", rising.front(), 2);
        falling.move(20, 63, 63);
        Due.due("front() with one moved before all", falling.front(), 1);
        falling.remove(20);
        Due.due("front() with that one gone", falling.front(), 39);
        Due.due("front(), the weight doesn't count", weighted().front(), 1);
    }

    private static BlockKdTrees weighted() {
        BlockKdTrees t = new BlockKdTrees();
        t.add(5, 5, 99);
        t.add(6, 6, 0);
        return t;
    }

    private static void bothAsGreat() {
        Due.due("front(), x one greater and y one less", at(10, 10, 11, 9).front(), 2);
        Due.due("front(), x one less and y one greater", at(10, 10, 9, 11).front(), 2);
        Due.due("front(), x far greater and y one less", at(10, 10, 63, 9).front(), 2);
        Due.due("front(), y far greater and x one less", at(10, 10, 9, 63).front(), 2);
        Due.due("front(), both one greater", at(10, 10, 11, 11).front(), 1);
        Due.due("front(), both one less", at(10, 10, 9, 9).front(), 1);
    }

    private static void oneGreater() {
        Due.due("front(), x as great and y one greater", at(10, 10, 10, 11).front(), 1);
        Due.due("front(), y as great and x one greater", at(10, 10, 11, 10).front(), 1);
        Due.due("front(), x as great and y one less", at(10, 10, 10, 9).front(), 1);
        Due.due("front(), y as great and x one less", at(10, 10, 9, 10).front(), 1);
        Due.due("front() of two at one place", at(10, 10, 10, 10).front(), 2);
        Due.due("front() of two at one place, both beaten", at(10, 10, 10, 10, 10, 11).front(), 1);
        Due.due("front() of two at one place that beat one", at(10, 10, 11, 11, 11, 11).front(), 2);
    }

    private static void leastOfTwo() {
        Due.due("closest() of two at one place", at(9, 9, 9, 9).closest(), 0);
        Due.due("closest(), one apart in x", at(9, 9, 10, 9).closest(), 1);
        Due.due("closest(), one apart in y", at(9, 9, 9, 10).closest(), 1);
        Due.due("closest(), one apart in both", at(9, 9, 10, 8).closest(), 2);
        Due.due("closest(), the farthest two", at(0, 0, 63, 63).closest(), FARTHEST);
        Due.due("closest(), the other farthest two", at(63, 0, 0, 63).closest(), FARTHEST);
        Due.due("closest(), the first two", at(0, 0, 0, 2, 30, 30, 60, 60).closest(), 4);
        Due.due("closest(), the last two", at(0, 0, 30, 30, 60, 60, 60, 62).closest(), 4);
        Due.due("closest(), the first and the last", at(0, 0, 30, 30, 60, 60, 0, 2).closest(), 4);
        Due.due("closest(), squares and not sums", at(0, 0, 3, 3, 50, 50, 55, 50).closest(), 18);
        BlockKdTrees first = at(0, 0, 0, 2, 30, 30, 30, 35);
        first.remove(0);
        Due.due("closest() without the first of the two", first.closest(), 25);
        BlockKdTrees t = at(0, 0, 0, 2, 30, 30, 30, 35);
        t.remove(1);
        Due.due("closest() without the second of the two", t.closest(), 25);
        t.move(3, 30, 30);
        Due.due("closest() after a move", t.closest(), 0);
        BlockKdTrees full = new BlockKdTrees();
        for (int p = 0; p < 40; p++) {
            full.add(p % 8 * 9, p / 8 * 9, 1);
        }
        Due.due("closest() of 40", full.closest(), 81);
        full.move(39, 0, 1);
        Due.due("closest() of 40, the last beside the first", full.closest(), 1);
    }

    private static void fewerThanTwo() {
        for (State state : new State[] {State.EMPTY, State.ONE, State.ONE_GONE, State.ALL_GONE}) {
            Due.refused(state, "closest()", t -> t.closest(), Due.NONE);
        }
        BlockKdTrees t = at(5, 5, 5, 5);
        Due.due("closest() of two", t.closest(), 0);
        t.remove(0);
        Due.due("closest() of one with one gone", t.closest(), Due.NONE);
        t.add(5, 6, 1);
        Due.due("closest() of two again", t.closest(), 1);
    }

    /** A question that is answered changes no more than one that is refused. */
    private static void questions() {
        for (State state : State.EACH) {
            Due.refused(state, "size()", t -> t.size(), state.size());
            Due.refused(state, "count(all)", t -> t.count(Due.ALL, Due.ALL), state.size());
            Due.refused(state, "within(5, 5, most)", t -> t.within(5, 5, Due.GREATEST), state.size());
            BlockKdTrees asked = state.make();
            asked.weight(Due.ALL, Due.ALL);
            asked.heaviest(Due.ALL, Due.ALL);
            asked.nearest(5, 5);
            asked.near(5, 5, 1);
            asked.front();
            asked.closest();
            asked.where(state.first());
            asked.next(Due.ALL, Due.ALL, 0);
            Due.changedNothing(state, "the other questions", asked);
        }
    }
}
