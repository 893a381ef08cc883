/** For each promise of the document: ordinary inputs, the edges it names, and wrong inputs. */
public final class PromisesTest {
    private static final int BAD_ARG = -1;
    private static final int FULL = -2;
    private static final int NONE = -4;
    private static final int ALL = span(0, 63);
    private static final int[] NO_COORDINATES = {-1, 64, -64, 100, 4096, Integer.MIN_VALUE, Integer.MAX_VALUE};
    private static final int[] NO_POINTS = {-1, -2, -4, 40, 199, 200, 201, Integer.MIN_VALUE, Integer.MAX_VALUE};
    private static final int[] NO_SPANS = {
        -1, -64, -4096, 1, 63, span(5, 4), span(63, 62), 4096, 4095 + 4096, Integer.MIN_VALUE, Integer.MAX_VALUE,
        Integer.MIN_VALUE + 64 * 5, span(0, 64), span(-1, 5)
    };

    private static int wrong = 0;

    public static void main(String[] args) {
        newObject();
        add();
        addUntilFull();
        remove();
        move();
        sizeAndWhere();
        count();
        weight();
        heaviest();
        next();
        nearest();
        near();
        within();
        front();
        closest();
        merge();
        orderAndLimits();
        refusedCallsChangeNothing();
        objectsStandApart();
        System.out.println(wrong == 0 ? "all answers are as due" : wrong + " answers are not as due");
        if (wrong != 0) {
            System.exit(1);
        }
    }

    private static void due(int promise, String call, int got, int want) {
        if (got != want) {
            wrong++;
            System.out.println("promise " + promise + ": " + call + " answered " + got + ", due is " + want);
        }
    }

    private static int span(int first, int last) {
        return first + 64 * last;
    }

    private static int place(int x, int y) {
        return 64 * y + x;
    }

    /** 0 at (10, 10) weighs 5, 1 at (20, 10) weighs 0, 2 at (10, 20) weighs 9, 3 at (20, 20) weighs 9. */
    private static BlockKdTrees square() {
        BlockKdTrees t = new BlockKdTrees();
        due(2, "first add", t.add(10, 10, 5), 0);
        due(2, "second add", t.add(20, 10, 0), 1);
        due(2, "third add", t.add(10, 20, 9), 2);
        due(2, "fourth add", t.add(20, 20, 9), 3);
        return t;
    }

    private static void newObject() {
        BlockKdTrees t = new BlockKdTrees();
        due(1, "size()", t.size(), 0);
        due(1, "where(0)", t.where(0), NONE);
        due(1, "remove(0)", t.remove(0), NONE);
        due(1, "move(0, 0, 0)", t.move(0, 0, 0), NONE);
        due(1, "count(all)", t.count(ALL, ALL), 0);
        due(1, "weight(all)", t.weight(ALL, ALL), 0);
        due(1, "count(the corner)", t.count(0, 0), 0);
        due(1, "heaviest(all)", t.heaviest(ALL, ALL), NONE);
        due(1, "next(all, 0)", t.next(ALL, ALL, 0), NONE);
        due(1, "nearest(0, 0)", t.nearest(0, 0), NONE);
        due(1, "near(0, 0, 0)", t.near(0, 0, 0), NONE);
        due(1, "within(0, 0, the most)", t.within(0, 0, Integer.MAX_VALUE), 0);
        due(1, "front()", t.front(), 0);
        due(1, "closest()", t.closest(), NONE);
    }

    private static void add() {
        BlockKdTrees t = new BlockKdTrees();
        due(2, "add(0, 0, 0)", t.add(0, 0, 0), 0);
        due(2, "add(63, 63, 99)", t.add(63, 63, 99), 1);
        due(2, "add(63, 0, 50) ", t.add(63, 0, 50), 2);
        due(2, "add at a place that is taken", t.add(63, 0, 50), 3);
        for (int bad : NO_COORDINATES) {
            due(2, "add(" + bad + ", 0, 0)", t.add(bad, 0, 0), BAD_ARG);
            due(2, "add(0, " + bad + ", 0)", t.add(0, bad, 0), BAD_ARG);
        }
        for (int bad : new int[] {-1, 100, 101, Integer.MIN_VALUE, Integer.MAX_VALUE}) {
            due(2, "add(0, 0, " + bad + ")", t.add(0, 0, bad), BAD_ARG);
        }
        due(2, "refused adds use no number", t.add(1, 1, 1), 4);
        due(2, "size()", t.size(), 5);
        due(2, "where(1)", t.where(1), place(63, 63));
        due(2, "where(2)", t.where(2), place(63, 0));
        due(2, "weight of the last place", t.weight(span(63, 63), span(63, 63)), 99);
        t.remove(4);
        due(2, "a number is never used again", t.add(1, 1, 1), 5);
    }

    private static void addUntilFull() {
        BlockKdTrees t = new BlockKdTrees();
        for (int p = 0; p < 40; p++) {
            due(2, "add " + p, t.add(p, p, p), p);
        }
        due(2, "add with 40 there", t.add(0, 0, 0), FULL);
        due(2, "bad add with 40 there: x", t.add(64, 0, 0), BAD_ARG);
        due(2, "bad add with 40 there: y", t.add(0, -1, 0), BAD_ARG);
        due(2, "bad add with 40 there: weight", t.add(0, 0, 100), BAD_ARG);
        due(2, "size() with 40 there", t.size(), 40);
        for (int p = 40; p < 200; p++) {
            due(3, "remove(" + (p - 40) + ")", t.remove(p - 40), (p - 40) % 50);
            due(2, "add " + p, t.add(p % 64, p % 7, p % 50), p);
        }
        due(2, "add with 40 there and 200 added", t.add(0, 0, 0), FULL);
        due(3, "remove(199)", t.remove(199), 49);
        due(3, "remove(160)", t.remove(160), 10);
        due(2, "add with 38 there and 200 added", t.add(0, 0, 0), FULL);
        due(2, "bad add with 200 added", t.add(0, 0, -1), BAD_ARG);
        due(5, "size()", t.size(), 38);
        due(6, "where(199)", t.where(199), NONE);
        due(6, "where(198)", t.where(198), place(198 % 64, 198 % 7));
        due(6, "where(200)", t.where(200), NONE);
        due(10, "next(all, 0)", t.next(ALL, ALL, 0), 161);
        due(10, "next(all, 198)", t.next(ALL, ALL, 198), 198);
        due(10, "next(all, 199)", t.next(ALL, ALL, 199), NONE);
        for (int p = 161; p < 199; p++) {
            due(3, "remove(" + p + ")", t.remove(p), p % 50);
        }
        due(2, "add with none there and 200 added", t.add(0, 0, 0), FULL);
        due(5, "size()", t.size(), 0);
    }

    private static void remove() {
        BlockKdTrees t = square();
        due(3, "remove(2)", t.remove(2), 9);
        due(3, "remove(2) again", t.remove(2), NONE);
        due(3, "remove(1), of weight 0", t.remove(1), 0);
        due(3, "remove(4), never added", t.remove(4), NONE);
        for (int bad : NO_POINTS) {
            due(3, "remove(" + bad + ")", t.remove(bad), NONE);
        }
        due(3, "size()", t.size(), 2);
        due(3, "where(2)", t.where(2), NONE);
        due(3, "where(3)", t.where(3), place(20, 20));
        due(3, "move(2, 0, 0)", t.move(2, 0, 0), NONE);
        due(3, "count(all)", t.count(ALL, ALL), 2);
        due(3, "weight(all)", t.weight(ALL, ALL), 14);
        due(3, "heaviest(all)", t.heaviest(ALL, ALL), 3);
        due(3, "next(all, 1)", t.next(ALL, ALL, 1), 3);
        due(3, "nearest(10, 20)", t.nearest(10, 20), 0);
        due(3, "near(10, 20, 1)", t.near(10, 20, 1), 3);
        due(3, "near(10, 20, 2)", t.near(10, 20, 2), NONE);
        due(3, "within(10, 20, 0)", t.within(10, 20, 0), 0);
        due(3, "closest()", t.closest(), 200);
        due(3, "remove(3)", t.remove(3), 9);
        due(3, "front()", t.front(), 1);
        due(3, "closest()", t.closest(), NONE);
    }

    private static void move() {
        BlockKdTrees t = square();
        due(4, "move(1, 3, 50)", t.move(1, 3, 50), place(20, 10));
        due(4, "where(1)", t.where(1), place(3, 50));
        due(4, "move(1, 3, 50) again", t.move(1, 3, 50), place(3, 50));
        due(4, "move(1, 63, 0)", t.move(1, 63, 0), place(3, 50));
        due(4, "move(1, 0, 63)", t.move(1, 0, 63), place(63, 0));
        due(4, "move(2, 0, 63), a place that is taken", t.move(2, 0, 63), place(10, 20));
        for (int bad : NO_COORDINATES) {
            due(4, "move(1, " + bad + ", 0)", t.move(1, bad, 0), BAD_ARG);
            due(4, "move(1, 0, " + bad + ")", t.move(1, 0, bad), BAD_ARG);
            due(4, "move(4, " + bad + ", 0), p first", t.move(4, bad, 0), NONE);
            due(4, "move(4, 0, " + bad + "), p first", t.move(4, 0, bad), NONE);
        }
        for (int bad : NO_POINTS) {
            due(4, "move(" + bad + ", 0, 0)", t.move(bad, 0, 0), NONE);
            due(4, "move(" + bad + ", 64, 64)", t.move(bad, 64, 64), NONE);
        }
        due(4, "where(1)", t.where(1), place(0, 63));
        due(4, "size()", t.size(), 4);
        due(4, "count(the place left)", t.count(span(20, 20), span(10, 10)), 0);
        due(4, "next(the new place, 0)", t.next(span(0, 0), span(63, 63), 0), 1);
        due(4, "the weights stay", t.weight(span(0, 0), span(63, 63)), 9);
        due(4, "remove(2) tells the weight", t.remove(2), 9);
        due(4, "remove(1) tells the weight", t.remove(1), 0);
        due(4, "move(1, 64, 64), removed", t.move(1, 64, 64), NONE);
    }

    private static void sizeAndWhere() {
        BlockKdTrees t = square();
        due(5, "size()", t.size(), 4);
        t.move(0, 0, 0);
        due(5, "size() after move", t.size(), 4);
        t.remove(0);
        due(5, "size() after remove", t.size(), 3);
        t.remove(0);
        due(5, "size() after refused remove", t.size(), 3);
        due(6, "where(1)", t.where(1), place(20, 10));
        due(6, "where(2)", t.where(2), place(10, 20));
        due(6, "where(0), removed", t.where(0), NONE);
        due(6, "where(4), never added", t.where(4), NONE);
        for (int bad : NO_POINTS) {
            due(6, "where(" + bad + ")", t.where(bad), NONE);
        }
        BlockKdTrees corners = new BlockKdTrees();
        corners.add(0, 0, 1);
        corners.add(63, 63, 1);
        due(6, "where(0) in the first corner", corners.where(0), 0);
        due(6, "where(1) in the last corner", corners.where(1), 4095);
    }

    private static void count() {
        BlockKdTrees t = square();
        due(7, "count(all)", t.count(ALL, ALL), 4);
        due(7, "count, all four on the rim", t.count(span(10, 20), span(10, 20)), 4);
        due(7, "count, x0 past", t.count(span(11, 20), span(10, 20)), 2);
        due(7, "count, x1 short", t.count(span(10, 19), span(10, 20)), 2);
        due(7, "count, y0 past", t.count(span(10, 20), span(11, 20)), 2);
        due(7, "count, y1 short", t.count(span(10, 20), span(10, 19)), 2);
        due(7, "count, one place", t.count(span(20, 20), span(10, 10)), 1);
        due(7, "count, the middle", t.count(span(11, 19), span(11, 19)), 0);
        due(7, "count, columns are x", t.count(span(20, 63), ALL), 2);
        t.move(3, 63, 10);
        due(7, "count, columns are x, lines are y", t.count(span(20, 63), span(0, 10)), 2);
        due(7, "count, lines are y", t.count(span(0, 10), span(20, 63)), 1);
        t.add(10, 10, 1);
        due(7, "count, two at one place", t.count(span(10, 10), span(10, 10)), 2);
        for (int bad : NO_SPANS) {
            due(7, "count(" + bad + ", all)", t.count(bad, ALL), BAD_ARG);
            due(7, "count(all, " + bad + ")", t.count(ALL, bad), BAD_ARG);
        }
    }

    private static void weight() {
        BlockKdTrees t = square();
        due(8, "weight(all)", t.weight(ALL, ALL), 23);
        due(8, "weight, the rim", t.weight(span(10, 20), span(10, 20)), 23);
        due(8, "weight, right column", t.weight(span(11, 20), span(10, 20)), 9);
        due(8, "weight, left column", t.weight(span(10, 19), span(10, 20)), 14);
        due(8, "weight, upper line", t.weight(span(10, 20), span(11, 20)), 18);
        due(8, "weight, lower line", t.weight(span(10, 20), span(10, 19)), 5);
        due(8, "weight, a point of weight 0", t.weight(span(20, 20), span(10, 10)), 0);
        due(8, "weight, no point", t.weight(span(11, 19), span(11, 19)), 0);
        for (int bad : NO_SPANS) {
            due(8, "weight(" + bad + ", all)", t.weight(bad, ALL), BAD_ARG);
            due(8, "weight(all, " + bad + ")", t.weight(ALL, bad), BAD_ARG);
        }
        BlockKdTrees most = new BlockKdTrees();
        for (int p = 0; p < 40; p++) {
            most.add(7, 9, 99);
        }
        due(8, "weight, the most there can be", most.weight(ALL, ALL), 40 * 99);
    }

    private static void heaviest() {
        BlockKdTrees t = square();
        due(9, "heaviest(all), the least number of two", t.heaviest(ALL, ALL), 2);
        due(9, "heaviest, lower line", t.heaviest(ALL, span(0, 19)), 0);
        due(9, "heaviest, right column", t.heaviest(span(20, 20), span(10, 20)), 3);
        due(9, "heaviest, of weight 0", t.heaviest(span(20, 20), span(10, 10)), 1);
        due(9, "heaviest, no point", t.heaviest(span(11, 19), span(11, 19)), NONE);
        t.add(0, 0, 99);
        due(9, "heaviest(all), a later one", t.heaviest(ALL, ALL), 4);
        t.remove(4);
        t.remove(2);
        due(9, "heaviest(all) after removes", t.heaviest(ALL, ALL), 3);
        for (int bad : NO_SPANS) {
            due(9, "heaviest(" + bad + ", all)", t.heaviest(bad, ALL), BAD_ARG);
            due(9, "heaviest(all, " + bad + ")", t.heaviest(ALL, bad), BAD_ARG);
        }
    }

    private static void next() {
        BlockKdTrees t = square();
        for (int from = 0; from < 4; from++) {
            due(10, "next(all, " + from + ")", t.next(ALL, ALL, from), from);
        }
        due(10, "next(all, 4)", t.next(ALL, ALL, 4), NONE);
        due(10, "next(all, -1)", t.next(ALL, ALL, -1), 0);
        due(10, "next(all, the least int)", t.next(ALL, ALL, Integer.MIN_VALUE), 0);
        due(10, "next(all, 200)", t.next(ALL, ALL, 200), NONE);
        due(10, "next(all, the greatest int)", t.next(ALL, ALL, Integer.MAX_VALUE), NONE);
        due(10, "next, right column from 0", t.next(span(20, 63), ALL, 0), 1);
        due(10, "next, right column from 2", t.next(span(20, 63), ALL, 2), 3);
        due(10, "next, no point", t.next(span(11, 19), span(11, 19), 0), NONE);
        t.remove(1);
        due(10, "next(all, 1), removed", t.next(ALL, ALL, 1), 2);
        for (int bad : NO_SPANS) {
            due(10, "next(" + bad + ", all, 0)", t.next(bad, ALL, 0), BAD_ARG);
            due(10, "next(all, " + bad + ", 0)", t.next(ALL, bad, 0), BAD_ARG);
        }
    }

    private static void nearest() {
        BlockKdTrees t = square();
        due(11, "nearest(0, 0)", t.nearest(0, 0), 0);
        due(11, "nearest(63, 0)", t.nearest(63, 0), 1);
        due(11, "nearest(0, 63)", t.nearest(0, 63), 2);
        due(11, "nearest(63, 63)", t.nearest(63, 63), 3);
        due(11, "nearest(15, 15), all alike", t.nearest(15, 15), 0);
        due(11, "nearest(16, 15), two alike", t.nearest(16, 15), 1);
        due(11, "nearest(15, 16), two alike", t.nearest(15, 16), 2);
        t.remove(0);
        due(11, "nearest(15, 15) without 0", t.nearest(15, 15), 1);
        for (int bad : NO_COORDINATES) {
            due(11, "nearest(" + bad + ", 0)", t.nearest(bad, 0), BAD_ARG);
            due(11, "nearest(0, " + bad + ")", t.nearest(0, bad), BAD_ARG);
        }
        BlockKdTrees squares = new BlockKdTrees();
        squares.add(5, 0, 1);
        squares.add(3, 3, 1);
        due(11, "nearest(0, 0), 18 and not 6 against 25", squares.nearest(0, 0), 1);
    }

    private static void near() {
        BlockKdTrees t = square();
        int[] fromCorner = {3, 1, 2, 0, NONE};
        int[] fromMiddle = {0, 1, 2, 3, NONE};
        for (int k = 0; k < 5; k++) {
            due(12, "near(63, 63, " + k + ")", t.near(63, 63, k), fromCorner[k]);
            due(12, "near(15, 15, " + k + "), all alike", t.near(15, 15, k), fromMiddle[k]);
        }
        for (int k : new int[] {-1, -4, Integer.MIN_VALUE, 40, 200, Integer.MAX_VALUE}) {
            due(12, "near(0, 0, " + k + ")", t.near(0, 0, k), NONE);
        }
        for (int bad : NO_COORDINATES) {
            due(12, "near(" + bad + ", 0, 0)", t.near(bad, 0, 0), BAD_ARG);
            due(12, "near(0, " + bad + ", 0)", t.near(0, bad, 0), BAD_ARG);
            due(12, "near(" + bad + ", 0, -1), BAD_ARG first", t.near(bad, 0, -1), BAD_ARG);
            due(12, "near(0, " + bad + ", 99), BAD_ARG first", t.near(0, bad, 99), BAD_ARG);
        }
        t.remove(1);
        due(12, "near(63, 63, 1) without 1", t.near(63, 63, 1), 2);
        due(12, "near(63, 63, 3) without 1", t.near(63, 63, 3), NONE);
        BlockKdTrees none = new BlockKdTrees();
        due(12, "near(64, 0, 0) of no point, BAD_ARG first", none.near(64, 0, 0), BAD_ARG);
    }

    private static void within() {
        BlockKdTrees t = square();
        due(13, "within(15, 15, 49)", t.within(15, 15, 49), 0);
        due(13, "within(15, 15, 50)", t.within(15, 15, 50), 4);
        due(13, "within(10, 10, 0)", t.within(10, 10, 0), 1);
        due(13, "within(10, 10, 99)", t.within(10, 10, 99), 1);
        due(13, "within(10, 10, 100)", t.within(10, 10, 100), 3);
        due(13, "within(10, 10, 199)", t.within(10, 10, 199), 3);
        due(13, "within(10, 10, 200)", t.within(10, 10, 200), 4);
        due(13, "within(10, 10, -1)", t.within(10, 10, -1), 0);
        due(13, "within(10, 10, the least int)", t.within(10, 10, Integer.MIN_VALUE), 0);
        due(13, "within(10, 10, the greatest int)", t.within(10, 10, Integer.MAX_VALUE), 4);
        for (int bad : NO_COORDINATES) {
            due(13, "within(" + bad + ", 0, 1)", t.within(bad, 0, 1), BAD_ARG);
            due(13, "within(0, " + bad + ", -1)", t.within(0, bad, -1), BAD_ARG);
        }
        BlockKdTrees far = new BlockKdTrees();
        far.add(63, 63, 1);
        due(13, "within(0, 0, 7937)", far.within(0, 0, 7937), 0);
        due(13, "within(0, 0, 7938)", far.within(0, 0, 7938), 1);
    }

    private static void front() {
        BlockKdTrees t = new BlockKdTrees();
        t.add(10, 10, 1);
        due(14, "front() of one", t.front(), 1);
        t.add(10, 10, 2);
        due(14, "front() of two at one place", t.front(), 2);
        t.add(10, 9, 3);
        due(14, "front(), x the same and y less is beaten", t.front(), 2);
        t.add(9, 10, 3);
        due(14, "front(), y the same and x less is beaten", t.front(), 2);
        t.add(9, 11, 3);
        due(14, "front(), x less and y greater", t.front(), 3);
        t.add(11, 9, 3);
        due(14, "front(), x greater and y less", t.front(), 4);
        t.add(11, 10, 3);
        due(14, "front(), three beaten by one", t.front(), 2);
        t.remove(6);
        due(14, "front(), the one taken away", t.front(), 4);
        t.move(3, 63, 63);
        due(14, "front(), one beats all", t.front(), 1);
    }

    private static void closest() {
        BlockKdTrees t = new BlockKdTrees();
        t.add(0, 0, 1);
        due(15, "closest() of one", t.closest(), NONE);
        t.add(63, 63, 1);
        due(15, "closest(), the farthest", t.closest(), 7938);
        t.add(3, 3, 1);
        due(15, "closest()", t.closest(), 18);
        t.add(5, 3, 1);
        due(15, "closest(), squares", t.closest(), 4);
        t.add(63, 63, 1);
        due(15, "closest() of two at one place", t.closest(), 0);
        t.remove(1);
        due(15, "closest() after remove", t.closest(), 4);
        t.move(3, 60, 63);
        due(15, "closest() after move", t.closest(), 9);
        t.remove(0);
        t.remove(2);
        t.remove(3);
        due(15, "closest() of one again", t.closest(), NONE);
    }

    private static void merge() {
        BlockKdTrees quiet = new BlockKdTrees();
        BlockKdTrees merged = new BlockKdTrees();
        merged.merge();
        due(16, "size()", merged.size(), 0);
        for (int i = 0; i < 50; i++) {
            int x = i * 23 % 64;
            int y = i * 41 % 64;
            due(16, "add", merged.add(x, y, i), quiet.add(x, y, i));
            merged.merge();
            if (i % 3 == 0) {
                due(16, "remove", merged.remove(i / 2), quiet.remove(i / 2));
                merged.merge();
            }
            due(16, "where", merged.where(i / 2), quiet.where(i / 2));
            due(16, "near", merged.near(x, x, i / 4), quiet.near(x, x, i / 4));
            due(16, "heaviest", merged.heaviest(span(0, x), ALL), quiet.heaviest(span(0, x), ALL));
            due(16, "front", merged.front(), quiet.front());
            due(16, "closest", merged.closest(), quiet.closest());
            due(16, "size", merged.size(), quiet.size());
        }
    }

    private static void orderAndLimits() {
        BlockKdTrees none = new BlockKdTrees();
        for (int bad : NO_SPANS) {
            due(17, "heaviest(" + bad + ", all) of no point", none.heaviest(bad, ALL), BAD_ARG);
            due(17, "heaviest(all, " + bad + ") of no point", none.heaviest(ALL, bad), BAD_ARG);
            due(17, "next(" + bad + ", all, 0) of no point", none.next(bad, ALL, 0), BAD_ARG);
            due(17, "next(all, " + bad + ", 500) of no point", none.next(ALL, bad, 500), BAD_ARG);
        }
        for (int bad : NO_COORDINATES) {
            due(17, "nearest(" + bad + ", 0) of no point", none.nearest(bad, 0), BAD_ARG);
            due(17, "nearest(0, " + bad + ") of no point", none.nearest(0, bad), BAD_ARG);
            due(17, "within(" + bad + ", 0, 0) of no point", none.within(bad, 0, 0), BAD_ARG);
        }
        everySpan();
    }

    /** Every number a span can be told by, and some on both sides, each on an object that is young enough. */
    private static void everySpan() {
        for (int code = -300; code < 4400; code++) {
            BlockKdTrees t = new BlockKdTrees();
            t.add(31, 31, 3);
            boolean ok = code >= 0 && code < 4096 && (code & 63) <= (code >> 6);
            boolean in = ok && (code & 63) <= 31 && 31 <= (code >> 6);
            int found = in ? 1 : 0;
            due(17, "count(" + code + ", all)", t.count(code, ALL), ok ? found : BAD_ARG);
            due(17, "count(all, " + code + ")", t.count(ALL, code), ok ? found : BAD_ARG);
            due(17, "weight(" + code + ", all)", t.weight(code, ALL), ok ? 3 * found : BAD_ARG);
            due(17, "heaviest(all, " + code + ")", t.heaviest(ALL, code), ok ? (in ? 0 : NONE) : BAD_ARG);
            due(17, "next(" + code + ", all, 0)", t.next(code, ALL, 0), ok ? (in ? 0 : NONE) : BAD_ARG);
        }
    }

    private static void refusedCallsChangeNothing() {
        BlockKdTrees t = square();
        int[] odd = {Integer.MIN_VALUE, -4096, -1, 64, 200, 4096, Integer.MAX_VALUE};
        for (int a : odd) {
            t.add(a, a, a);
            t.add(0, 0, a < 100 && a >= 0 ? -1 : a);
            t.remove(a);
            t.move(a, 0, 0);
            t.move(0, a, 0);
            t.move(0, 0, a);
            t.where(a);
            t.count(a, a == 4096 ? -1 : a);
            t.weight(a, a);
            t.heaviest(a, a);
            t.next(a, a, a);
            t.nearest(a, a);
            t.near(a, a, a);
            t.within(a, a, a);
        }
        due(2, "size() after refused calls", t.size(), 4);
        due(4, "where(0) after refused calls", t.where(0), place(10, 10));
        due(4, "where(1) after refused calls", t.where(1), place(20, 10));
        due(4, "where(2) after refused calls", t.where(2), place(10, 20));
        due(4, "where(3) after refused calls", t.where(3), place(20, 20));
        due(8, "weight(all) after refused calls", t.weight(ALL, ALL), 23);
        due(2, "add after refused calls", t.add(0, 0, 0), 4);
    }

    private static void objectsStandApart() {
        BlockKdTrees one = square();
        BlockKdTrees other = new BlockKdTrees();
        due(1, "size() of another object", other.size(), 0);
        due(2, "add on another object", other.add(1, 1, 1), 0);
        due(6, "where(0) of the first object", one.where(0), place(10, 10));
        due(5, "size() of the first object", one.size(), 4);
    }
}
