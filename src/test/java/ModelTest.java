import java.util.ArrayList;
import java.util.Comparator;
import java.util.List;
import java.util.Map;
import java.util.TreeMap;
import java.util.stream.Collectors;

/** Long runs of calls, the same at every start, each answer set against a model in another form. */
public final class ModelTest {
    private static final int RUNS = 400;
    private static final int CALLS = 512;
    private static final int SHOWN = 20;

    private record Point(int number, int x, int y, int weight) {
        int distance(int a, int b) {
            return (x - a) * (x - a) + (y - b) * (y - b);
        }
    }

    /** The document's words over sorted lists, kept apart from how the class does it. */
    private static final class Model {
        final Map<Integer, Point> points = new TreeMap<>();
        int added = 0;

        static boolean place(int x, int y) {
            return 0 <= x && x <= 63 && 0 <= y && y <= 63;
        }

        static boolean none(int code) {
            for (int first = 0; first < 64; first++) {
                for (int last = first; last < 64; last++) {
                    if (code == first + 64 * last) {
                        return false;
                    }
                }
            }
            return true;
        }

        List<Point> inside(int columns, int lines) {
            return points.values().stream()
                .filter(p -> columns % 64 <= p.x && p.x <= columns / 64 && lines % 64 <= p.y && p.y <= lines / 64)
                .collect(Collectors.toList());
        }

        List<Point> byDistance(int a, int b) {
            List<Point> sorted = new ArrayList<>(points.values());
            sorted.sort(Comparator.<Point>comparingInt(p -> p.distance(a, b)).thenComparingInt(Point::number));
            return sorted;
        }

        int add(int x, int y, int weight) {
            if (!place(x, y) || weight < 0 || weight > 99) {
                return -1;
            }
            if (points.size() == 40 || added == 200) {
                return -2;
            }
            points.put(added, new Point(added, x, y, weight));
            return added++;
        }

        int remove(int p) {
            Point gone = points.remove(p);
            return gone == null ? -4 : gone.weight;
        }

        int move(int p, int x, int y) {
            Point old = points.get(p);
            if (old == null) {
                return -4;
            }
            if (!place(x, y)) {
                return -1;
            }
            points.put(p, new Point(p, x, y, old.weight));
            return 64 * old.y + old.x;
        }

        int where(int p) {
            Point point = points.get(p);
            return point == null ? -4 : 64 * point.y + point.x;
        }

        int count(int columns, int lines) {
            return none(columns) || none(lines) ? -1 : inside(columns, lines).size();
        }

        int weight(int columns, int lines) {
            return none(columns) || none(lines) ? -1
                : inside(columns, lines).stream().mapToInt(Point::weight).sum();
        }

        int heaviest(int columns, int lines) {
            return none(columns) || none(lines) ? -1
                : inside(columns, lines).stream()
                    .min(Comparator.<Point>comparingInt(p -> -p.weight).thenComparingInt(Point::number))
                    .map(Point::number).orElse(-4);
        }

        int next(int columns, int lines, int from) {
            return none(columns) || none(lines) ? -1
                : inside(columns, lines).stream().mapToInt(Point::number).filter(n -> n >= from).min().orElse(-4);
        }

        int near(int a, int b, int k) {
            if (!place(a, b)) {
                return -1;
            }
            return k < 0 || k >= points.size() ? -4 : byDistance(a, b).get(k).number;
        }

        int within(int a, int b, int d) {
            return !place(a, b) ? -1 : (int) points.values().stream().filter(p -> p.distance(a, b) <= d).count();
        }

        int front() {
            int unbeaten = 0;
            for (Point p : points.values()) {
                boolean beaten = points.values().stream()
                    .anyMatch(q -> q.x >= p.x && q.y >= p.y && !(q.x == p.x && q.y == p.y));
                unbeaten += beaten ? 0 : 1;
            }
            return unbeaten;
        }

        int closest() {
            return points.values().stream()
                .flatMap(p -> points.values().stream().filter(q -> q != p).map(q -> p.distance(q.x, q.y)))
                .min(Comparator.naturalOrder()).orElse(-4);
        }
    }

    private static long state;
    private static int wrong = 0;

    public static void main(String[] args) {
        for (int run = 0; run < RUNS && wrong < SHOWN; run++) {
            state = run * 1_000_003L + 17;
            play(run);
        }
        System.out.println(wrong == 0 ? "all answers are as due" : wrong + " answers are not as due");
        if (wrong != 0) {
            System.exit(1);
        }
    }

    private static int below(int bound) {
        state = state * 6364136223846793005L + 1442695040888963407L;
        return (int) ((state >>> 33) % bound);
    }

    /** Mostly within the side, now and then outside it. A small side makes ties and shared places common. */
    private static int coordinate(int side) {
        if (below(40) == 0) {
            int[] odd = {-1, 64, 65, Integer.MIN_VALUE, Integer.MAX_VALUE};
            return odd[below(odd.length)];
        }
        return below(6) == 0 ? 63 - below(side) : below(side);
    }

    private static int span(int side) {
        if (below(25) == 0) {
            int[] odd = {-1, -64, 4096, 4097, 63, 64 * 64 + 64, Integer.MIN_VALUE, Integer.MAX_VALUE};
            return odd[below(odd.length)];
        }
        if (below(10) == 0) {
            return below(4096);
        }
        int first = below(side);
        return first + 64 * (first + below(64 - first));
    }

    private static int number(int added) {
        return below(30) == 0 ? below(260) - 30 : Math.max(0, added - below(60));
    }

    private static void play(int run) {
        BlockKdTrees got = new BlockKdTrees();
        Model want = new Model();
        int side = new int[] {3, 8, 24, 64}[run % 4];
        int changeShare = new int[] {30, 50, 70, 85, 98}[run % 5];
        for (int call = 0; call < CALLS && wrong < SHOWN; call++) {
            String at = "run " + run + " call " + call + ": ";
            if (below(100) < changeShare) {
                change(at, got, want, side);
            } else {
                ask(at, got, want, side);
            }
        }
    }

    private static void change(String at, BlockKdTrees got, Model want, int side) {
        int x = coordinate(side);
        int y = coordinate(side);
        int p = number(want.added);
        switch (below(5)) {
            case 0, 1 -> {
                int w = below(30) == 0 ? (below(2) == 0 ? -1 : 100) : below(side < 10 ? 4 : 100);
                due(at + "add(" + x + ", " + y + ", " + w + ")", got.add(x, y, w), want.add(x, y, w));
            }
            case 2, 3 -> due(at + "remove(" + p + ")", got.remove(p), want.remove(p));
            default -> due(at + "move(" + p + ", " + x + ", " + y + ")", got.move(p, x, y), want.move(p, x, y));
        }
    }

    private static void ask(String at, BlockKdTrees got, Model want, int side) {
        int c = span(side);
        int l = span(side);
        int a = coordinate(side);
        int b = coordinate(side);
        int p = number(want.added);
        int k = below(44) - 2;
        int d = below(10) == 0 ? below(8000) - 20 : below(side * side);
        switch (below(13)) {
            case 0 -> due(at + "size()", got.size(), want.points.size());
            case 1 -> due(at + "where(" + p + ")", got.where(p), want.where(p));
            case 2 -> due(at + "count(" + c + ", " + l + ")", got.count(c, l), want.count(c, l));
            case 3 -> due(at + "weight(" + c + ", " + l + ")", got.weight(c, l), want.weight(c, l));
            case 4 -> due(at + "heaviest(" + c + ", " + l + ")", got.heaviest(c, l), want.heaviest(c, l));
            case 5 -> due(at + "next(" + c + ", " + l + ", " + p + ")", got.next(c, l, p), want.next(c, l, p));
            case 6 -> due(at + "nearest(" + a + ", " + b + ")", got.nearest(a, b), want.near(a, b, 0));
            case 7, 8 -> due(at + "near(" + a + ", " + b + ", " + k + ")", got.near(a, b, k), want.near(a, b, k));
            case 9 -> due(at + "within(" + a + ", " + b + ", " + d + ")", got.within(a, b, d), want.within(a, b, d));
            case 10 -> due(at + "front()", got.front(), want.front());
            case 11 -> due(at + "closest()", got.closest(), want.closest());
            default -> got.merge();
        }
    }

    private static void due(String call, int got, int want) {
        if (got != want) {
            wrong++;
            System.out.println(call + " answered " + got + ", due is " + want);
        }
    }
}
