/** The boundary sentences of promises 1 to 6, each with a test of its own. */
public final class ChangeEdgesTest {
    private static final int[] ODD = {
        Due.LEAST, -64, -1, 0, 1, 62, 63, 64, 99, 100, 199, 200, 4096, Due.GREATEST
    };

    public static void main(String[] args) {
        Due.sentence("Promise 1", "No point.", ChangeEdgesTest::noPoint);
        Due.sentence("Promise 2", "Adds a point.", ChangeEdgesTest::adds);
        Due.sentence("Promise 2", "x or y not 0 to 63 or weight not 0 to 99 answers BAD_ARG",
            ChangeEdgesTest::addOutOfRange);
        Due.sentence("Promise 2", "40 points are there, or 200 were added, answers FULL", ChangeEdgesTest::addFull);
        Due.sentence("Promise 2", "Tested in this order", ChangeEdgesTest::addOrder);
        Due.sentence("Promise 2", "Otherwise its number.", ChangeEdgesTest::addAnswersNumber);
        Due.sentence("Promise 3", "Takes point p away.", ChangeEdgesTest::takesAway);
        Due.sentence("Promise 3", "NONE if it is not there.", ChangeEdgesTest::removeNotThere);
        Due.sentence("Promise 3", "Otherwise its weight.", ChangeEdgesTest::removeAnswersWeight);
        Due.sentence("Promise 4", "Point p goes to the place (x, y)", ChangeEdgesTest::goes);
        Due.sentence("Promise 4", "its number and weight stay", ChangeEdgesTest::numberAndWeightStay);
        Due.sentence("Promise 4", "p is not there answers NONE", ChangeEdgesTest::moveNotThere);
        Due.sentence("Promise 4", "x or y not 0 to 63 answers BAD_ARG", ChangeEdgesTest::moveOutOfRange);
        Due.sentence("Promise 4", "Tested in this order", ChangeEdgesTest::moveOrder);
        Due.sentence("Promise 4", "Otherwise 64 times the y plus the x that it had.", ChangeEdgesTest::moveAnswersOldPlace);
        Due.sentence("Promise 5", "The number of points that are there.", ChangeEdgesTest::sizes);
        Due.sentence("Promise 6", "64 y + x of point p", ChangeEdgesTest::wherePlaces);
        Due.sentence("Promise 6", "NONE if it is not there.", ChangeEdgesTest::whereNotThere);
        Due.end();
    }

    private static void noPoint() {
        Due.due("size()", new BlockKdTrees().size(), 0);
        Due.due("count(all)", new BlockKdTrees().count(Due.ALL, Due.ALL), 0);
        Due.due("count at (0, 0)", new BlockKdTrees().count(0, 0), 0);
        Due.due("weight(all)", new BlockKdTrees().weight(Due.ALL, Due.ALL), 0);
        Due.due("heaviest(all)", new BlockKdTrees().heaviest(Due.ALL, Due.ALL), Due.NONE);
        Due.due("next(all, the least int)", new BlockKdTrees().next(Due.ALL, Due.ALL, Due.LEAST), Due.NONE);
        Due.due("nearest(0, 0)", new BlockKdTrees().nearest(0, 0), Due.NONE);
        Due.due("near(0, 0, 0)", new BlockKdTrees().near(0, 0, 0), Due.NONE);
        Due.due("within(0, 0, the greatest int)", new BlockKdTrees().within(0, 0, Due.GREATEST), 0);
        Due.due("front()", new BlockKdTrees().front(), 0);
        Due.due("closest()", new BlockKdTrees().closest(), Due.NONE);
        for (int p = 0; p < 200; p++) {
            Due.due("where(" + p + ")", new BlockKdTrees().where(p), Due.NONE);
            Due.due("remove(" + p + ")", new BlockKdTrees().remove(p), Due.NONE);
            Due.due("move(" + p + ", 0, 0)", new BlockKdTrees().move(p, 0, 0), Due.NONE);
        }
        BlockKdTrees used = State.FULL.make();
        Due.due("size() of a second object", new BlockKdTrees().size(), 0);
        Due.due("add on a second object", new BlockKdTrees().add(0, 0, 0), 0);
        Due.due("size() of the first object", used.size(), 40);
    }

    private static void adds() {
        for (State state : State.EACH) {
            if (state.takesMore()) {
                BlockKdTrees t = state.make();
                int weight = t.weight(Due.ALL, Due.ALL);
                int p = t.add(63, 63, 99);
                Due.due("size() after add " + state, t.size(), state.size() + 1);
                Due.due("where after add " + state, t.where(p), Due.place(63, 63));
                Due.due("weight after add " + state, t.weight(Due.ALL, Due.ALL), weight + 99);
                Due.due("nearest after add " + state, t.nearest(63, 63), p);
                Due.due("front after add " + state, t.front(), 1);
                Due.due("next after add " + state, t.next(Due.ALL, Due.ALL, p), p);
            }
        }
    }

    private static void addOutOfRange() {
        for (int edge : new int[] {0, 63}) {
            Due.due("add, x " + edge, new BlockKdTrees().add(edge, 5, 5), 0);
            Due.due("add, y " + edge, new BlockKdTrees().add(5, edge, 5), 0);
        }
        Due.due("add, weight 0", new BlockKdTrees().add(5, 5, 0), 0);
        Due.due("add, weight 99", new BlockKdTrees().add(5, 5, 99), 0);
        for (int bad : Due.NO_COORDINATES) {
            Due.refused(State.EMPTY, "add(" + bad + ", 5, 5)", t -> t.add(bad, 5, 5), Due.BAD_ARG);
            Due.refused(State.EMPTY, "add(5, " + bad + ", 5)", t -> t.add(5, bad, 5), Due.BAD_ARG);
            Due.refused(State.SOME, "add(" + bad + ", " + bad + ", 5)", t -> t.add(bad, bad, 5), Due.BAD_ARG);
        }
        for (int bad : Due.NO_WEIGHTS) {
            Due.refused(State.EMPTY, "add(5, 5, " + bad + ")", t -> t.add(5, 5, bad), Due.BAD_ARG);
            Due.refused(State.SOME, "add(64, 5, " + bad + ")", t -> t.add(64, 5, bad), Due.BAD_ARG);
        }
    }

    private static void addFull() {
        for (State state : State.EACH) {
            if (state.takesMore()) {
                Due.due("add " + state, state.make().add(5, 5, 5), state.added());
            } else {
                Due.refused(state, "add(5, 5, 5)", t -> t.add(5, 5, 5), Due.FULL);
                Due.refused(state, "add(0, 0, 0)", t -> t.add(0, 0, 0), Due.FULL);
                Due.refused(state, "add(63, 63, 99)", t -> t.add(63, 63, 99), Due.FULL);
            }
        }
        BlockKdTrees t = State.FULL.make();
        t.remove(0);
        Due.due("add with 39 there of 40 added", t.add(5, 5, 5), 40);
        Due.due("add with 40 there of 41 added", t.add(5, 5, 5), Due.FULL);
    }

    private static void addOrder() {
        for (State state : State.EACH) {
            for (int x : ODD) {
                for (int y : ODD) {
                    for (int weight : ODD) {
                        boolean good = x >= 0 && x <= 63 && y >= 0 && y <= 63 && weight >= 0 && weight <= 99;
                        int due = !good ? Due.BAD_ARG : state.takesMore() ? state.added() : Due.FULL;
                        Due.due("add(" + x + ", " + y + ", " + weight + ") " + state,
                            state.make().add(x, y, weight), due);
                    }
                }
            }
        }
        Due.refused(State.FULL, "add(64, 5, 5)", t -> t.add(64, 5, 5), Due.BAD_ARG);
        Due.refused(State.FULL, "add(5, -1, 5)", t -> t.add(5, -1, 5), Due.BAD_ARG);
        Due.refused(State.FULL, "add(5, 5, 100)", t -> t.add(5, 5, 100), Due.BAD_ARG);
        Due.refused(State.ALL_GONE, "add(-1, 5, 5)", t -> t.add(-1, 5, 5), Due.BAD_ARG);
        Due.refused(State.ALL_GONE, "add(5, 64, 5)", t -> t.add(5, 64, 5), Due.BAD_ARG);
        Due.refused(State.ALL_GONE, "add(5, 5, -1)", t -> t.add(5, 5, -1), Due.BAD_ARG);
    }

    private static void addAnswersNumber() {
        BlockKdTrees t = new BlockKdTrees();
        for (int p = 0; p < 200; p++) {
            if (p >= 40) {
                t.remove(p - 40);
            }
            Due.due("add " + p, t.add(p % 64, p % 5, p % 100), p);
        }
    }

    private static void takesAway() {
        for (State state : State.EACH) {
            if (state.size() > 0) {
                gone(state, state.first());
                gone(state, state.added() - 1);
            }
        }
    }

    private static void gone(State state, int p) {
        BlockKdTrees t = state.make();
        int weight = t.weight(Due.ALL, Due.ALL);
        int there = t.count(Due.span(State.x(p), State.x(p)), Due.span(State.y(p), State.y(p)));
        t.remove(p);
        Due.due("size() without " + p + " " + state, t.size(), state.size() - 1);
        Due.due("where(" + p + ") " + state, t.where(p), Due.NONE);
        Due.due("count at its place " + state,
            t.count(Due.span(State.x(p), State.x(p)), Due.span(State.y(p), State.y(p))), there - 1);
        Due.due("weight without it " + state, t.weight(Due.ALL, Due.ALL), weight - State.weight(p));
        Due.due("within its place " + state, t.within(State.x(p), State.y(p), 0), there - 1);
        Due.due("near, the last k " + state, t.near(0, 0, state.size() - 1), Due.NONE);
        int next = p + 1 < state.added() ? p + 1 : Due.NONE;
        Due.due("next from it " + state, t.next(Due.ALL, Due.ALL, p), next);
        for (int q = state.first(); q < state.added(); q++) {
            Due.due("where(" + q + ") without " + p, t.where(q), q == p ? Due.NONE : State.place(q));
        }
    }

    private static void removeNotThere() {
        for (State state : State.EACH) {
            for (int p : notThere(state)) {
                Due.refused(state, "remove(" + p + ")", t -> t.remove(p), Due.NONE);
            }
        }
        BlockKdTrees t = State.ONE.make();
        t.remove(0);
        Due.due("remove(0) a second time", t.remove(0), Due.NONE);
        Due.due("size() after the second time", t.size(), 0);
        Due.due("remove of what a refused add answered", t.remove(t.add(64, 0, 0)), Due.NONE);
        t.add(5, 5, 5);
        Due.due("remove(0) with 1 there", t.remove(0), Due.NONE);
        Due.due("remove(1)", t.remove(1), 5);
    }

    /** Never added, gone again, out of every range, or there if only the last bits were looked at. */
    private static int[] notThere(State state) {
        int p = Math.max(0, state.added() - 1);
        return new int[] {
            -1, -2, -4, state.first() - 1, state.added(), 200, 201, p - 256, p + 256, p + 65536, p + Due.LEAST, -p - 1,
            Due.LEAST, Due.GREATEST
        };
    }

    private static void removeAnswersWeight() {
        for (State state : State.EACH) {
            BlockKdTrees t = state.make();
            for (int p = state.first(); p < state.added(); p++) {
                Due.due("remove(" + p + ") " + state, t.remove(p), State.weight(p));
            }
        }
        BlockKdTrees t = new BlockKdTrees();
        t.add(1, 2, 0);
        t.add(1, 2, 99);
        Due.due("remove of weight 0", t.remove(0), 0);
        Due.due("remove of weight 99", t.remove(1), 99);
    }

    private static void goes() {
        for (int[] to : new int[][] {{0, 0}, {63, 0}, {0, 63}, {63, 63}, {30, 30}, {10, 50}}) {
            BlockKdTrees t = new BlockKdTrees();
            t.add(30, 30, 1);
            t.add(31, 30, 2);
            t.move(0, to[0], to[1]);
            int columns = Due.span(to[0], to[0]);
            int lines = Due.span(to[1], to[1]);
            Due.due("where(0)", t.where(0), Due.place(to[0], to[1]));
            Due.due("where(1), not moved", t.where(1), Due.place(31, 30));
            Due.due("count at the new place", t.count(columns, lines), 1);
            Due.due("next at the new place", t.next(columns, lines, 0), 0);
            Due.due("nearest the new place", t.nearest(to[0], to[1]), 0);
            int left = to[0] == 30 && to[1] == 30 ? 1 : 0;
            Due.due("count at the old place", t.count(Due.span(30, 30), Due.span(30, 30)), left);
            Due.due("within the old place", t.within(30, 30, 0), left);
        }
        BlockKdTrees t = State.FULL.make();
        Due.due("move with 40 there", t.move(39, 9, 9), State.place(39));
        BlockKdTrees late = State.ALL_ADDED.make();
        Due.due("move with 200 added", late.move(199, 9, 9), State.place(199));
        Due.due("where(199)", late.where(199), Due.place(9, 9));
    }

    private static void numberAndWeightStay() {
        BlockKdTrees t = new BlockKdTrees();
        t.add(1, 1, 0);
        t.add(2, 2, 99);
        t.add(3, 3, 50);
        t.move(0, 2, 2);
        t.move(1, 1, 1);
        Due.due("size() after moves", t.size(), 3);
        Due.due("next at (2, 2)", t.next(Due.span(2, 2), Due.span(2, 2), 0), 0);
        Due.due("next at (1, 1)", t.next(Due.span(1, 1), Due.span(1, 1), 0), 1);
        Due.due("weight at (2, 2)", t.weight(Due.span(2, 2), Due.span(2, 2)), 0);
        Due.due("weight at (1, 1)", t.weight(Due.span(1, 1), Due.span(1, 1)), 99);
        Due.due("heaviest(all)", t.heaviest(Due.ALL, Due.ALL), 1);
        Due.due("add uses the next number", t.add(5, 5, 5), 3);
        Due.due("remove(0)", t.remove(0), 0);
        Due.due("remove(1)", t.remove(1), 99);
    }

    private static void moveNotThere() {
        for (State state : State.EACH) {
            for (int p : notThere(state)) {
                Due.refused(state, "move(" + p + ", 5, 5)", t -> t.move(p, 5, 5), Due.NONE);
            }
        }
        BlockKdTrees t = State.ONE.make();
        t.remove(0);
        Due.due("move(0, 5, 5) of one taken away", t.move(0, 5, 5), Due.NONE);
        Due.due("where(0) of one taken away", t.where(0), Due.NONE);
        Due.due("count(all)", t.count(Due.ALL, Due.ALL), 0);
    }

    private static void moveOutOfRange() {
        for (int edge : new int[] {0, 63}) {
            Due.due("move, x " + edge, State.ONE.make().move(0, edge, 5), State.place(0));
            Due.due("move, y " + edge, State.ONE.make().move(0, 5, edge), State.place(0));
        }
        for (int bad : Due.NO_COORDINATES) {
            Due.refused(State.ONE, "move(0, " + bad + ", 5)", t -> t.move(0, bad, 5), Due.BAD_ARG);
            Due.refused(State.ONE, "move(0, 5, " + bad + ")", t -> t.move(0, 5, bad), Due.BAD_ARG);
            Due.refused(State.FULL, "move(39, " + bad + ", 5)", t -> t.move(39, bad, 5), Due.BAD_ARG);
            Due.refused(State.FULL, "move(39, 5, " + bad + ")", t -> t.move(39, 5, bad), Due.BAD_ARG);
            Due.refused(State.ALL_ADDED, "move(199, " + bad + ", " + bad + ")", t -> t.move(199, bad, bad), Due.BAD_ARG);
        }
    }

    private static void moveOrder() {
        for (State state : State.EACH) {
            for (int p : ODD) {
                for (int x : ODD) {
                    for (int y : ODD) {
                        boolean good = x >= 0 && x <= 63 && y >= 0 && y <= 63;
                        int due = !state.isThere(p) ? Due.NONE : good ? State.place(p) : Due.BAD_ARG;
                        Due.due("move(" + p + ", " + x + ", " + y + ") " + state, state.make().move(p, x, y), due);
                    }
                }
            }
            Due.refused(state, "move(added, 64, 5)", t -> t.move(state.added(), 64, 5), Due.NONE);
            Due.refused(state, "move(added, 5, -1)", t -> t.move(state.added(), 5, -1), Due.NONE);
        }
    }

    private static void moveAnswersOldPlace() {
        BlockKdTrees t = new BlockKdTrees();
        t.add(0, 0, 1);
        int[][] way = {{63, 63}, {63, 0}, {0, 63}, {1, 0}, {0, 1}, {0, 1}, {20, 40}, {40, 20}, {0, 0}, {5, 5}};
        int before = 0;
        for (int[] to : way) {
            Due.due("move to (" + to[0] + ", " + to[1] + ")", t.move(0, to[0], to[1]), before);
            before = Due.place(to[0], to[1]);
        }
        Due.due("a refused move on the way", t.move(0, 64, 5), Due.BAD_ARG);
        Due.due("the move after the refused one", t.move(0, 9, 9), before);
    }

    private static void sizes() {
        for (State state : State.EACH) {
            Due.due("size() " + state, state.make().size(), state.size());
        }
        BlockKdTrees t = new BlockKdTrees();
        for (int n = 1; n <= 40; n++) {
            t.add(1, 1, 0);
            Due.due("size() going up", t.size(), n);
        }
        t.add(1, 1, 0);
        Due.due("size() after a refused add", t.size(), 40);
        t.move(39, 1, 1);
        Due.due("size() after a move", t.size(), 40);
        for (int n = 39; n >= 0; n--) {
            t.remove(n);
            Due.due("size() going down", t.size(), n);
        }
        t.remove(0);
        Due.due("size() after a refused remove", t.size(), 0);
    }

    private static void wherePlaces() {
        for (State state : State.EACH) {
            for (int p = state.first(); p < state.added(); p++) {
                Due.due("where(" + p + ") " + state, state.make().where(p), State.place(p));
            }
        }
        int[][] rows = {{0, 0, 0}, {63, 0, 63}, {0, 63, 4032}, {63, 63, 4095}, {1, 0, 1}, {0, 1, 64}};
        for (int[] row : rows) {
            BlockKdTrees t = new BlockKdTrees();
            t.add(row[0], row[1], 0);
            Due.due("where(0) at (" + row[0] + ", " + row[1] + ")", t.where(0), row[2]);
        }
    }

    private static void whereNotThere() {
        for (State state : State.EACH) {
            for (int p : notThere(state)) {
                Due.refused(state, "where(" + p + ")", t -> t.where(p), Due.NONE);
            }
        }
    }
}
