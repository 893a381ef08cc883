/**
 * Points with weights that come and go, and what lies in a rectangle, near a place, above a line of weight.
 *
 * A point's number is its index in the arrays. Numbers are never used twice and end at 199, so a scan over all of
 * them is short, and it meets the points in the order of their numbers, which settles every tie.
 */
public final class BlockKdTrees {
    public static final int BAD_ARG = -1;
    public static final int FULL = -2;
    public static final int NONE = -4;

    private static final int SIDE = 64;
    private static final int MOST_WEIGHT = 99;
    private static final int MOST_THERE = 40;
    private static final int MOST_ADDED = 200;

    private final int[] xs = new int[MOST_ADDED];
    private final int[] ys = new int[MOST_ADDED];
    private final int[] weights = new int[MOST_ADDED];
    private final boolean[] there = new boolean[MOST_ADDED];
    private int added = 0;
    private int thereNow = 0;

    public BlockKdTrees() {
    }

    public int add(int x, int y, int weight) {
        if (!isPlace(x, y) || weight < 0 || weight > MOST_WEIGHT) {
            return BAD_ARG;
        }
        if (thereNow >= MOST_THERE || added >= MOST_ADDED) {
            return FULL;
        }
        int p = added;
        xs[p] = x;
        ys[p] = y;
        weights[p] = weight;
        there[p] = true;
        added++;
        thereNow++;
        return p;
    }

    public int remove(int p) {
        if (!isThere(p)) {
            return NONE;
        }
        there[p] = false;
        thereNow--;
        return weights[p];
    }

    public int move(int p, int x, int y) {
        if (!isThere(p)) {
            return NONE;
        }
        if (!isPlace(x, y)) {
            return BAD_ARG;
        }
        int before = placeCode(p);
        xs[p] = x;
        ys[p] = y;
        return before;
    }

    public int size() {
        return thereNow;
    }

    public int where(int p) {
        return isThere(p) ? placeCode(p) : NONE;
    }

    public int count(int columns, int lines) {
        if (!isRectangle(columns, lines)) {
            return BAD_ARG;
        }
        int found = 0;
        for (int p = 0; p < MOST_ADDED; p++) {
            if (liesIn(p, columns, lines)) {
                found++;
            }
        }
        return found;
    }

    public int weight(int columns, int lines) {
        if (!isRectangle(columns, lines)) {
            return BAD_ARG;
        }
        int sum = 0;
        for (int p = 0; p < MOST_ADDED; p++) {
            if (liesIn(p, columns, lines)) {
                sum += weights[p];
            }
        }
        return sum;
    }

    public int heaviest(int columns, int lines) {
        if (!isRectangle(columns, lines)) {
            return BAD_ARG;
        }
        int best = NONE;
        int bestWeight = -1;
        for (int p = 0; p < MOST_ADDED; p++) {
            if (liesIn(p, columns, lines) && weights[p] > bestWeight) {
                best = p;
                bestWeight = weights[p];
            }
        }
        return best;
    }

    public int next(int columns, int lines, int from) {
        if (!isRectangle(columns, lines)) {
            return BAD_ARG;
        }
        for (int p = 0; p < MOST_ADDED; p++) {
            if (p >= from && liesIn(p, columns, lines)) {
                return p;
            }
        }
        return NONE;
    }

    public int nearest(int a, int b) {
        if (!isPlace(a, b)) {
            return BAD_ARG;
        }
        return pointOfRank(a, b, 0);
    }

    public int near(int a, int b, int k) {
        if (!isPlace(a, b)) {
            return BAD_ARG;
        }
        return pointOfRank(a, b, k);
    }

    public int within(int a, int b, int d) {
        if (!isPlace(a, b)) {
            return BAD_ARG;
        }
        int found = 0;
        for (int p = 0; p < MOST_ADDED; p++) {
            if (there[p] && distance(p, a, b) <= d) {
                found++;
            }
        }
        return found;
    }

    public int front() {
        int unbeaten = 0;
        for (int p = 0; p < MOST_ADDED; p++) {
            if (there[p] && !isBeaten(p)) {
                unbeaten++;
            }
        }
        return unbeaten;
    }

    public int closest() {
        int least = NONE;
        for (int p = 0; p < MOST_ADDED; p++) {
            if (there[p]) {
                for (int q = p + 1; q < MOST_ADDED; q++) {
                    if (there[q]) {
                        int apart = distance(p, xs[q], ys[q]);
                        if (least == NONE || apart < least) {
                            least = apart;
                        }
                    }
                }
            }
        }
        return least;
    }

    // No other call may see what this does, and the arrays hold nothing that would need tidying.
    public void merge() {
    }

    private static boolean isPlace(int x, int y) {
        return x >= 0 && x < SIDE && y >= 0 && y < SIDE;
    }

    private static boolean isSpan(int span) {
        return span >= 0 && span < SIDE * SIDE && span % SIDE <= span / SIDE;
    }

    private static boolean isRectangle(int columns, int lines) {
        return isSpan(columns) && isSpan(lines);
    }

    private static boolean isInSpan(int value, int span) {
        return span % SIDE <= value && value <= span / SIDE;
    }

    private boolean isThere(int p) {
        return p >= 0 && p < MOST_ADDED && there[p];
    }

    private boolean liesIn(int p, int columns, int lines) {
        return isThere(p) && isInSpan(xs[p], columns) && isInSpan(ys[p], lines);
    }

    private int placeCode(int p) {
        return SIDE * ys[p] + xs[p];
    }

    private int distance(int p, int a, int b) {
        int dx = xs[p] - a;
        int dy = ys[p] - b;
        return dx * dx + dy * dy;
    }

    // Counting who comes before needs no sorted copy, and so no array to sort in.
    private int pointOfRank(int a, int b, int k) {
        for (int p = 0; p < MOST_ADDED; p++) {
            if (there[p] && rank(p, a, b) == k) {
                return p;
            }
        }
        return NONE;
    }

    private int rank(int p, int a, int b) {
        int own = distance(p, a, b);
        int before = 0;
        for (int q = 0; q < MOST_ADDED; q++) {
            if (there[q]) {
                int other = distance(q, a, b);
                if (other < own || (other == own && q < p)) {
                    before++;
                }
            }
        }
        return before;
    }

    private boolean isBeaten(int p) {
        for (int q = 0; q < MOST_ADDED; q++) {
            if (there[q] && xs[q] >= xs[p] && ys[q] >= ys[p] && (xs[q] > xs[p] || ys[q] > ys[p])) {
                return true;
            }
        }
        return false;
    }
}
