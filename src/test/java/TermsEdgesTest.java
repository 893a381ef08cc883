import java.util.List;
import java.util.function.ToIntFunction;

/** The boundary sentences of "What it is" and "Terms", and of promise 16, each with a test of its own. */
public final class TermsEdgesTest {
    private static final String TERMS = "Terms";

    private record Asked(String name, ToIntFunction<BlockKdTrees> call) {
    }

    public static void main(String[] args) {
        Due.sentence("What it is", "An object is used for at most 512 calls after it has been made",
            TermsEdgesTest::lastCallOf512);
        Due.sentence(TERMS, "0 for the first one ever added, 1 for the next, and so on", TermsEdgesTest::numbers);
        Due.sentence(TERMS, "x and y from 0 to 63", TermsEdgesTest::coordinates);
        Due.sentence(TERMS, "a WEIGHT, 0 to 99", TermsEdgesTest::weights);
        Due.sentence(TERMS, "Several points may have the same place", TermsEdgesTest::samePlace);
        Due.sentence(TERMS, "At most 40 points are there at a time", TermsEdgesTest::fortyThere);
        Due.sentence(TERMS, "at most 200 are ever added", TermsEdgesTest::twoHundredAdded);
        Due.sentence(TERMS, "x0 <= x <= x1 and y0 <= y <= y1", TermsEdgesTest::rims);
        Due.sentence(TERMS, "columns = x0 + 64 x1 and lines = y0 + 64 y1", TermsEdgesTest::columnsAndLines);
        Due.sentence(TERMS, "with x0 <= x1 and y0 <= y1", TermsEdgesTest::firstAtMostSecond);
        Due.sentence(TERMS, "(x - a) (x - a) + (y - b) (y - b)", TermsEdgesTest::distances);
        Due.sentence(TERMS, "What the call merge does can't be seen by any other call", TermsEdgesTest::unseenMerge);
        Due.sentence("Promise 16", "Housekeeping.", TermsEdgesTest::mergeBetweenAllCalls);
        Due.sentence(TERMS, "No call ever throws.", TermsEdgesTest::nothingThrown);
        Due.sentence(TERMS, "A refused call answers the code named and changes nothing.",
            TermsEdgesTest::refusedCallsChangeNothing);
        Due.sentence(TERMS, "BAD_ARG = -1", () -> Due.due("BAD_ARG", BlockKdTrees.BAD_ARG, -1));
        Due.sentence(TERMS, "FULL = -2", () -> Due.due("FULL", BlockKdTrees.FULL, -2));
        Due.sentence(TERMS, "NONE = -4", () -> Due.due("NONE", BlockKdTrees.NONE, -4));
        Due.end();
    }

    /** A call of each kind that answers, about the last number that was given out. */
    private static List<Asked> calls(State state) {
        int p = Math.max(0, state.added() - 1);
        int middle = Due.span(5, 50);
        return List.of(
            new Asked("size", t -> t.size()),
            new Asked("where", t -> t.where(p)),
            new Asked("count", t -> t.count(middle, middle)),
            new Asked("weight", t -> t.weight(middle, middle)),
            new Asked("heaviest", t -> t.heaviest(Due.ALL, Due.ALL)),
            new Asked("next", t -> t.next(Due.ALL, Due.ALL, p)),
            new Asked("nearest", t -> t.nearest(60, 3)),
            new Asked("near", t -> t.near(60, 3, 2)),
            new Asked("within", t -> t.within(30, 30, 400)),
            new Asked("front", t -> t.front()),
            new Asked("closest", t -> t.closest()),
            new Asked("add", t -> t.add(7, 8, 9)),
            new Asked("move", t -> t.move(p, 1, 2)),
            new Asked("remove", t -> t.remove(p)));
    }

    private static void lastCallOf512() {
        for (State state : State.EACH) {
            int made = state.added() + state.first();
            for (Asked asked : calls(state)) {
                int want = asked.call().applyAsInt(state.make());
                BlockKdTrees merged = state.make();
                BlockKdTrees refused = state.make();
                BlockKdTrees moved = state.make();
                for (int i = made; i < 511; i++) {
                    merged.merge();
                    refused.add(64, 64, 100);
                    int p = state.first() + i % Math.max(1, state.size());
                    moved.move(p, State.x(p), State.y(p));
                }
                String call = "the 512th call, " + asked.name() + ", " + state;
                Due.due(call + ", the others merge", asked.call().applyAsInt(merged), want);
                Due.due(call + ", the others refused", asked.call().applyAsInt(refused), want);
                Due.due(call + ", the others move", asked.call().applyAsInt(moved), want);
            }
        }
        BlockKdTrees oneKind = new BlockKdTrees();
        for (int call = 1; call <= 512; call++) {
            Due.due("size() as call " + call, oneKind.size(), 0);
        }
    }

    private static void numbers() {
        BlockKdTrees t = new BlockKdTrees();
        Due.due("a refused add before the first", t.add(64, 0, 0), Due.BAD_ARG);
        Due.due("the first add", t.add(5, 5, 5), 0);
        Due.due("a refused add", t.add(0, 0, 100), Due.BAD_ARG);
        Due.due("the second add, at the same place", t.add(5, 5, 5), 1);
        t.remove(1);
        Due.due("the third add, the second point gone", t.add(5, 5, 5), 2);
        t.remove(0);
        t.remove(2);
        Due.due("the fourth add, all points gone", t.add(5, 5, 5), 3);
        t.move(3, 6, 6);
        for (int p = 4; p < 43; p++) {
            Due.due("add after a move, with room", t.add(5, 5, 5), p);
        }
        Due.due("an add without room", t.add(5, 5, 5), Due.FULL);
        t.remove(10);
        Due.due("add after the one without room", t.add(5, 5, 5), 43);
    }

    private static void coordinates() {
        for (int c = 0; c < 64; c++) {
            BlockKdTrees t = new BlockKdTrees();
            Due.due("add(" + c + ", 0, 1)", t.add(c, 0, 1), 0);
            Due.due("add(63, " + c + ", 1)", t.add(63, c, 1), 1);
            Due.due("where(0)", t.where(0), Due.place(c, 0));
            Due.due("where(1)", t.where(1), Due.place(63, c));
            Due.due("move(0, 0, " + c + ")", t.move(0, 0, c), Due.place(c, 0));
            Due.due("move(1, " + c + ", 63)", t.move(1, c, 63), Due.place(63, c));
            Due.due("where(0) after the move", t.where(0), Due.place(0, c));
            Due.due("where(1) after the move", t.where(1), Due.place(c, 63));
        }
        for (int bad : Due.NO_COORDINATES) {
            Due.refused(State.SOME, "add(" + bad + ", 5, 5)", t -> t.add(bad, 5, 5), Due.BAD_ARG);
            Due.refused(State.SOME, "add(5, " + bad + ", 5)", t -> t.add(5, bad, 5), Due.BAD_ARG);
            Due.refused(State.SOME, "move(4, " + bad + ", 5)", t -> t.move(4, bad, 5), Due.BAD_ARG);
            Due.refused(State.SOME, "move(4, 5, " + bad + ")", t -> t.move(4, 5, bad), Due.BAD_ARG);
        }
    }

    private static void weights() {
        int place = Due.span(5, 5);
        for (int weight = 0; weight < 100; weight++) {
            BlockKdTrees t = new BlockKdTrees();
            Due.due("add(5, 5, " + weight + ")", t.add(5, 5, weight), 0);
            Due.due("weight there", t.weight(place, place), weight);
            Due.due("remove(0)", t.remove(0), weight);
        }
        for (int bad : Due.NO_WEIGHTS) {
            Due.refused(State.SOME, "add(5, 5, " + bad + ")", t -> t.add(5, 5, bad), Due.BAD_ARG);
        }
    }

    private static void samePlace() {
        BlockKdTrees added = new BlockKdTrees();
        BlockKdTrees moved = new BlockKdTrees();
        for (int p = 0; p < 40; p++) {
            Due.due("add " + p + " at one place", added.add(63, 0, 99 - p), p);
            moved.add(p, p, 99 - p);
            Due.due("move " + p + " to one place", moved.move(p, 63, 0), Due.place(p, p));
        }
        fortyAtOnePlace("added", added);
        fortyAtOnePlace("moved", moved);
    }

    private static void fortyAtOnePlace(String how, BlockKdTrees t) {
        int columns = Due.span(63, 63);
        int lines = Due.span(0, 0);
        Due.due(how + ": size()", t.size(), 40);
        Due.due(how + ": count there", t.count(columns, lines), 40);
        Due.due(how + ": weight there", t.weight(columns, lines), 40 * 99 - 39 * 40 / 2);
        Due.due(how + ": heaviest there", t.heaviest(columns, lines), 0);
        Due.due(how + ": nearest there", t.nearest(63, 0), 0);
        Due.due(how + ": within there", t.within(63, 0, 0), 40);
        Due.due(how + ": front()", t.front(), 40);
        Due.due(how + ": closest()", t.closest(), 0);
        for (int p = 0; p < 40; p++) {
            Due.due(how + ": where(" + p + ")", t.where(p), Due.place(63, 0));
            Due.due(how + ": next there from " + p, t.next(columns, lines, p), p);
            Due.due(how + ": near there, k = " + p, t.near(63, 0, p), p);
        }
        Due.due(how + ": remove(20) takes the one", t.remove(20), 79);
        Due.due(how + ": count there after remove", t.count(columns, lines), 39);
        Due.due(how + ": next there from 20 after remove", t.next(columns, lines, 20), 21);
    }

    private static void fortyThere() {
        BlockKdTrees t = State.ALMOST_FULL.make();
        Due.due("the 40th add", t.add(9, 9, 9), 39);
        Due.due("size()", t.size(), 40);
        Due.due("the 41st add", t.add(9, 9, 9), Due.FULL);
        Due.due("size() after the refused add", t.size(), 40);
        Due.due("move with 40 there", t.move(39, 8, 8), Due.place(9, 9));
        Due.due("add after the move", t.add(9, 9, 9), Due.FULL);
        Due.due("remove that is refused", t.remove(40), Due.NONE);
        Due.due("add after the refused remove", t.add(9, 9, 9), Due.FULL);
        Due.due("remove", t.remove(39), 9);
        Due.due("add with 39 there again", t.add(9, 9, 9), 40);
        Due.due("add with 40 there again", t.add(9, 9, 9), Due.FULL);
        for (int p = 0; p < 10; p++) {
            t.remove(p);
        }
        for (int p = 41; p < 51; p++) {
            Due.due("add with room for ten", t.add(9, 9, 9), p);
        }
        Due.due("add with the ten in", t.add(9, 9, 9), Due.FULL);
        Due.due("size() at the end", t.size(), 40);
        Due.due("count(all) at the end", t.count(Due.ALL, Due.ALL), 40);
        Due.refused(State.FULL, "add(5, 5, 5)", u -> u.add(5, 5, 5), Due.FULL);
    }

    private static void twoHundredAdded() {
        BlockKdTrees t = State.ALL_BUT_ONE_ADDED.make();
        Due.due("the 200th add", t.add(9, 9, 9), 199);
        Due.due("where(199)", t.where(199), Due.place(9, 9));
        Due.due("remove(198)", t.remove(198), State.weight(198));
        Due.due("the 201st add, with 39 there", t.add(9, 9, 9), Due.FULL);
        Due.due("size() after the refused add", t.size(), 39);
        Due.due("move(199, 7, 6)", t.move(199, 7, 6), Due.place(9, 9));
        Due.due("next(all, 199)", t.next(Due.ALL, Due.ALL, 199), 199);
        Due.due("nearest(7, 6)", t.nearest(7, 6), 199);
        Due.due("heaviest at (7, 6)", t.heaviest(Due.span(7, 7), Due.span(6, 6)), 199);
        Due.due("remove(199)", t.remove(199), 9);
        Due.due("where(200), never added", t.where(200), Due.NONE);
        BlockKdTrees oneByOne = new BlockKdTrees();
        for (int p = 0; p < 200; p++) {
            Due.due("add with none there", oneByOne.add(1, 1, 1), p);
            Due.due("remove(" + p + ")", oneByOne.remove(p), 1);
        }
        Due.due("the 201st add, with none there", oneByOne.add(1, 1, 1), Due.FULL);
        Due.refused(State.ALL_ADDED, "add(5, 5, 5)", u -> u.add(5, 5, 5), Due.FULL);
        Due.refused(State.ALL_ADDED_FEW_LEFT, "add(5, 5, 5)", u -> u.add(5, 5, 5), Due.FULL);
        Due.refused(State.ALL_GONE, "add(5, 5, 5)", u -> u.add(5, 5, 5), Due.FULL);
    }

    private static void rims() {
        int[][] columns = {{20, 40, 1}, {30, 40, 1}, {31, 40, 0}, {20, 30, 1}, {20, 29, 0}, {30, 30, 1}, {0, 63, 1}};
        for (int[] x : columns) {
            for (int[] y : columns) {
                BlockKdTrees t = new BlockKdTrees();
                t.add(30, 30, 8);
                boolean in = x[2] == 1 && y[2] == 1;
                inRectangle(t, Due.span(x[0], x[1]), Due.span(y[0], y[1]), in);
            }
        }
        for (int c = 0; c < 64; c += 63) {
            BlockKdTrees t = new BlockKdTrees();
            t.add(c, 63 - c, 8);
            inRectangle(t, Due.span(c, c), Due.span(63 - c, 63 - c), true);
            inRectangle(t, Due.span(1, 62), Due.ALL, false);
            inRectangle(t, Due.ALL, Due.span(1, 62), false);
            inRectangle(t, Due.ALL, Due.ALL, true);
        }
    }

    /** The object has one point, 0, of weight 8. */
    private static void inRectangle(BlockKdTrees t, int columns, int lines, boolean in) {
        String rectangle = "(" + columns + ", " + lines + ")";
        Due.due("count" + rectangle, t.count(columns, lines), in ? 1 : 0);
        Due.due("weight" + rectangle, t.weight(columns, lines), in ? 8 : 0);
        Due.due("heaviest" + rectangle, t.heaviest(columns, lines), in ? 0 : Due.NONE);
        Due.due("next" + rectangle + " from 0", t.next(columns, lines, 0), in ? 0 : Due.NONE);
    }

    private static void columnsAndLines() {
        BlockKdTrees t = new BlockKdTrees();
        t.add(10, 50, 8);
        inRectangle(t, Due.span(10, 10), Due.span(50, 50), true);
        inRectangle(t, Due.span(50, 50), Due.span(10, 10), false);
        inRectangle(t, Due.span(5, 15), Due.span(45, 55), true);
        inRectangle(t, Due.span(45, 55), Due.span(5, 15), false);
        inRectangle(t, 10 + 64 * 12, 48 + 64 * 50, true);
        inRectangle(t, 11 + 64 * 12, 48 + 64 * 50, false);
        inRectangle(t, 10 + 64 * 12, 48 + 64 * 49, false);
    }

    private static void firstAtMostSecond() {
        for (int last = 0; last < 64; last++) {
            BlockKdTrees t = new BlockKdTrees();
            t.add(last, last, 8);
            inRectangle(t, Due.span(last, last), Due.span(last, last), true);
            if (last < 63) {
                int turned = Due.span(last + 1, last);
                Due.due("count(" + turned + ", all)", t.count(turned, Due.ALL), Due.BAD_ARG);
                Due.due("count(all, " + turned + ")", t.count(Due.ALL, turned), Due.BAD_ARG);
                Due.due("weight(" + turned + ", all)", t.weight(turned, Due.ALL), Due.BAD_ARG);
                Due.due("weight(all, " + turned + ")", t.weight(Due.ALL, turned), Due.BAD_ARG);
                Due.due("heaviest(" + turned + ", all)", t.heaviest(turned, Due.ALL), Due.BAD_ARG);
                Due.due("heaviest(all, " + turned + ")", t.heaviest(Due.ALL, turned), Due.BAD_ARG);
                Due.due("next(" + turned + ", all, 0)", t.next(turned, Due.ALL, 0), Due.BAD_ARG);
                Due.due("next(all, " + turned + ", 0)", t.next(Due.ALL, turned, 0), Due.BAD_ARG);
            }
        }
    }

    private static void distances() {
        int[][] rows = {
            {0, 0, 63, 63, 7938}, {63, 0, 0, 63, 7938}, {0, 0, 63, 0, 3969}, {0, 63, 0, 0, 3969}, {7, 9, 7, 9, 0},
            {7, 9, 8, 9, 1}, {7, 9, 7, 8, 1}, {7, 9, 6, 8, 2}, {10, 10, 13, 14, 25}, {10, 10, 14, 7, 25}
        };
        for (int[] row : rows) {
            BlockKdTrees t = new BlockKdTrees();
            t.add(row[0], row[1], 1);
            Due.due("within, one less than the distance", t.within(row[2], row[3], row[4] - 1), 0);
            Due.due("within, the distance", t.within(row[2], row[3], row[4]), 1);
            t.add(row[2], row[3], 1);
            Due.due("closest()", t.closest(), row[4]);
        }
    }

    private static void unseenMerge() {
        for (State state : State.EACH) {
            BlockKdTrees merged = state.make();
            merged.merge();
            Due.changedNothing(state, "merge()", merged);
            BlockKdTrees twice = state.make();
            twice.merge();
            twice.merge();
            Due.changedNothing(state, "merge() twice", twice);
        }
    }

    private static void mergeBetweenAllCalls() {
        for (State state : State.EACH) {
            BlockKdTrees merged = state.make();
            BlockKdTrees quiet = state.make();
            for (int round = 1; round <= 3; round++) {
                for (Asked asked : calls(state)) {
                    merged.merge();
                    Due.due(asked.name() + " in round " + round + " " + state,
                        asked.call().applyAsInt(merged), asked.call().applyAsInt(quiet));
                }
            }
        }
    }

    private static void nothingThrown() {
        int[] odd = {
            Due.LEAST, Due.LEAST + 1, -4096, -65, -64, -4, -1, 0, 1, 39, 40, 63, 64, 99, 100, 199, 200, 201, 4032, 4095,
            4096, Due.GREATEST - 1, Due.GREATEST
        };
        for (State state : State.EACH) {
            goesOn(state, "size", t -> t.size());
            goesOn(state, "front", t -> t.front());
            goesOn(state, "closest", t -> t.closest());
            for (int a : odd) {
                goesOn(state, "remove " + a, t -> t.remove(a));
                goesOn(state, "where " + a, t -> t.where(a));
                for (int b : odd) {
                    oddPair(state, a, b);
                    for (int c : odd) {
                        oddTriple(state, a, b, c);
                    }
                }
            }
        }
    }

    private static void oddPair(State state, int a, int b) {
        String with = " " + a + " " + b;
        goesOn(state, "count" + with, t -> t.count(a, b));
        goesOn(state, "weight" + with, t -> t.weight(a, b));
        goesOn(state, "heaviest" + with, t -> t.heaviest(a, b));
        goesOn(state, "nearest" + with, t -> t.nearest(a, b));
    }

    private static void oddTriple(State state, int a, int b, int c) {
        String with = " " + a + " " + b + " " + c;
        goesOn(state, "add" + with, t -> t.add(a, b, c));
        goesOn(state, "move" + with, t -> t.move(a, b, c));
        goesOn(state, "next" + with, t -> t.next(a, b, c));
        goesOn(state, "near" + with, t -> t.near(a, b, c));
        goesOn(state, "within" + with, t -> t.within(a, b, c));
    }

    private static void goesOn(State state, String call, ToIntFunction<BlockKdTrees> made) {
        try {
            made.applyAsInt(state.make());
        } catch (RuntimeException | Error thrown) {
            Due.holds(call + " " + state + " without " + thrown, false);
        }
    }

    private static void refusedCallsChangeNothing() {
        for (State state : State.EACH) {
            for (int bad : new int[] {-1, 64, Due.LEAST, Due.GREATEST}) {
                refusedPlaces(state, bad);
            }
            for (int bad : new int[] {-1, 4096, Due.span(1, 0), Due.LEAST, Due.GREATEST}) {
                refusedSpans(state, bad);
            }
            for (int p : new int[] {-1, state.first() - 1, state.added(), 200, Due.LEAST, Due.GREATEST}) {
                Due.refused(state, "remove(" + p + ")", t -> t.remove(p), Due.NONE);
                Due.refused(state, "move(" + p + ", 5, 5)", t -> t.move(p, 5, 5), Due.NONE);
                Due.refused(state, "where(" + p + ")", t -> t.where(p), Due.NONE);
            }
            for (int bad : new int[] {-1, 100, Due.LEAST, Due.GREATEST}) {
                Due.refused(state, "add(5, 5, " + bad + ")", t -> t.add(5, 5, bad), Due.BAD_ARG);
            }
            if (!state.takesMore()) {
                Due.refused(state, "add(5, 5, 5)", t -> t.add(5, 5, 5), Due.FULL);
            }
            Due.refused(state, "next(all, added)", t -> t.next(Due.ALL, Due.ALL, state.added()), Due.NONE);
            Due.refused(state, "near(5, 5, size)", t -> t.near(5, 5, state.size()), Due.NONE);
            Due.refused(state, "near(5, 5, -1)", t -> t.near(5, 5, -1), Due.NONE);
        }
        for (State state : new State[] {State.EMPTY, State.ONE_GONE, State.ALL_GONE}) {
            Due.refused(state, "heaviest(all)", t -> t.heaviest(Due.ALL, Due.ALL), Due.NONE);
            Due.refused(state, "nearest(5, 5)", t -> t.nearest(5, 5), Due.NONE);
            Due.refused(state, "closest()", t -> t.closest(), Due.NONE);
        }
        Due.refused(State.ONE, "closest()", t -> t.closest(), Due.NONE);
    }

    private static void refusedPlaces(State state, int bad) {
        Due.refused(state, "add(" + bad + ", 5, 5)", t -> t.add(bad, 5, 5), Due.BAD_ARG);
        Due.refused(state, "add(5, " + bad + ", 5)", t -> t.add(5, bad, 5), Due.BAD_ARG);
        Due.refused(state, "nearest(" + bad + ", 5)", t -> t.nearest(bad, 5), Due.BAD_ARG);
        Due.refused(state, "nearest(5, " + bad + ")", t -> t.nearest(5, bad), Due.BAD_ARG);
        Due.refused(state, "near(" + bad + ", 5, 0)", t -> t.near(bad, 5, 0), Due.BAD_ARG);
        Due.refused(state, "near(5, " + bad + ", 0)", t -> t.near(5, bad, 0), Due.BAD_ARG);
        Due.refused(state, "within(" + bad + ", 5, 9)", t -> t.within(bad, 5, 9), Due.BAD_ARG);
        Due.refused(state, "within(5, " + bad + ", 9)", t -> t.within(5, bad, 9), Due.BAD_ARG);
        if (state.size() > 0) {
            int p = state.first();
            Due.refused(state, "move(" + p + ", " + bad + ", 5)", t -> t.move(p, bad, 5), Due.BAD_ARG);
            Due.refused(state, "move(" + p + ", 5, " + bad + ")", t -> t.move(p, 5, bad), Due.BAD_ARG);
        }
    }

    private static void refusedSpans(State state, int bad) {
        Due.refused(state, "count(" + bad + ", all)", t -> t.count(bad, Due.ALL), Due.BAD_ARG);
        Due.refused(state, "count(all, " + bad + ")", t -> t.count(Due.ALL, bad), Due.BAD_ARG);
        Due.refused(state, "weight(" + bad + ", all)", t -> t.weight(bad, Due.ALL), Due.BAD_ARG);
        Due.refused(state, "weight(all, " + bad + ")", t -> t.weight(Due.ALL, bad), Due.BAD_ARG);
        Due.refused(state, "heaviest(" + bad + ", all)", t -> t.heaviest(bad, Due.ALL), Due.BAD_ARG);
        Due.refused(state, "heaviest(all, " + bad + ")", t -> t.heaviest(Due.ALL, bad), Due.BAD_ARG);
        Due.refused(state, "next(" + bad + ", all, 0)", t -> t.next(bad, Due.ALL, 0), Due.BAD_ARG);
        Due.refused(state, "next(all, " + bad + ", 0)", t -> t.next(Due.ALL, bad, 0), Due.BAD_ARG);
    }
}
