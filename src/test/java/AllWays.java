import java.util.ArrayList;
import java.util.List;
import java.util.Random;
import java.util.TreeSet;

/**
 * The best way by its definition alone, without a search for shortest paths: on drawn canvases all ways that
 * cost no more than the answer are gone through in lexicographic order; none of them may cost less, and the
 * first one that costs as much must be the route.
 */
public final class AllWays {
    private static final int[] DX = {0, 1, 0, -1};
    private static final int[] DY = {-1, 0, 1, 0};

    private static int wrong = 0;

    private final List<int[]> boxes = new ArrayList<>();
    private final TreeSet<Integer> xs = new TreeSet<>();
    private final TreeSet<Integer> ys = new TreeSet<>();
    private final int[] goal = new int[2];
    private int goalSide;
    private int penalty;
    // The cost of the answer; once a way of that cost is found, only ways that cost less are of interest.
    private int answer;
    private boolean found;
    private int cheaper = Integer.MAX_VALUE;
    private final List<int[]> nodes = new ArrayList<>();
    private final List<int[]> firstWay = new ArrayList<>();

    public static void main(String[] args) {
        int runs = args.length > 1 ? Integer.parseInt(args[1]) : 20000;
        int compared = 0;
        for (int seed = 1; seed <= runs && wrong < 5; seed++) {
            compared += new AllWays().compare(new Random(seed), seed);
        }
        System.out.println(compared + " routes compared, " + wrong + " wrong");
        if (wrong != 0 || compared < runs / 2) {
            System.exit(1);
        }
    }

    private int compare(Random random, int seed) {
        ConnectorRouter x = new ConnectorRouter();
        int room = 8 + random.nextInt(20);
        for (int i = 0; i < 12 && boxes.size() < 2 + seed % 5; i++) {
            int x1 = 2 + random.nextInt(room);
            int y1 = 2 + random.nextInt(room);
            int[] b = {x1, y1, x1 + 1 + random.nextInt(9), y1 + 1 + random.nextInt(9)};
            if (x.addBox(b[0], b[1], b[2], b[3]) >= 0) {
                boxes.add(b);
            }
        }
        penalty = new int[] {0, 0, 1, 2, 3, 5, 10, 50}[random.nextInt(8)];
        x.setPenalty(penalty);
        int n = boxes.size();
        int side = random.nextInt(4);
        goalSide = random.nextInt(4);
        if (x.link(random.nextInt(n), side, random.nextInt(6), random.nextInt(n), goalSide, random.nextInt(6)) != 0) {
            return 0;
        }
        answer = x.route(0);
        int[] start = outerPoint(x, 0, side);
        int[] end = outerPoint(x, 1, goalSide);
        goal[0] = end[0];
        goal[1] = end[1];
        layLines(start, end);
        nodes.add(start);
        go(start[0], start[1], side, 2);
        String got = Checks.writing(x, 0);
        String want = found ? corners(x) : "no way of that cost";
        if (cheaper != Integer.MAX_VALUE || !got.equals(want)) {
            wrong++;
            System.out.println("seed " + seed + ": " + got + " for " + answer + ", due is " + want
                + (cheaper == Integer.MAX_VALUE ? "" : ", and one for " + cheaper));
        }
        return 1;
    }

    private static int[] outerPoint(ConnectorRouter x, int end, int side) {
        return new int[] {x.connector(0, 6 + 2 * end) + DX[side], x.connector(0, 7 + 2 * end) + DY[side]};
    }

    private void layLines(int[] start, int[] end) {
        for (int[] b : boxes) {
            xs.add(b[0] - 1);
            xs.add(b[2] + 1);
            ys.add(b[1] - 1);
            ys.add(b[3] + 1);
        }
        xs.add(start[0]);
        xs.add(end[0]);
        ys.add(start[1]);
        ys.add(end[1]);
    }

    private boolean isBlocked(int x, int y) {
        for (int[] b : boxes) {
            if (x > b[0] - 1 && x < b[2] + 1 && y > b[1] - 1 && y < b[3] + 1) {
                return true;
            }
        }
        return false;
    }

    /** Goes on from a node in all directions; the direction is that of the step before, or of the first side. */
    private void go(int x, int y, int direction, int cost) {
        int least = cost + Math.abs(goal[0] - x) + Math.abs(goal[1] - y);
        if (least > answer || found && least >= answer) {
            return;
        }
        if (x == goal[0] && y == goal[1]) {
            arrive(direction, cost);
        }
        for (int d = 0; d < 4; d++) {
            if (d == (direction + 2) % 4) {
                continue;
            }
            int length = stepLength(x, y, d);
            if (length > 0) {
                int[] node = {x + DX[d] * length, y + DY[d] * length};
                nodes.add(node);
                go(node[0], node[1], d, cost + length + (d == direction ? 0 : penalty));
                nodes.remove(nodes.size() - 1);
            }
        }
    }

    private void arrive(int direction, int cost) {
        if (direction == goalSide) {
            return;
        }
        int whole = cost + (direction == (goalSide + 2) % 4 ? 0 : penalty);
        if (whole < answer) {
            cheaper = Math.min(cheaper, whole);
        } else if (whole == answer && !found) {
            found = true;
            firstWay.addAll(nodes);
        }
    }

    private int stepLength(int x, int y, int d) {
        Integer next = d == 0 ? ys.lower(y) : d == 1 ? xs.higher(x) : d == 2 ? ys.higher(y) : xs.lower(x);
        if (next == null) {
            return 0;
        }
        int length = Math.abs(next - (d % 2 == 0 ? y : x));
        for (int i = 1; i <= length; i++) {
            if (isBlocked(x + DX[d] * i, y + DY[d] * i)) {
                return 0;
            }
        }
        return length;
    }

    /** The route that the first way gives, written as the document says. */
    private String corners(ConnectorRouter x) {
        List<int[]> points = new ArrayList<>(firstWay);
        points.add(0, new int[] {x.connector(0, 6), x.connector(0, 7)});
        points.add(new int[] {x.connector(0, 8), x.connector(0, 9)});
        StringBuilder text = new StringBuilder("M" + points.get(0)[0] + "," + points.get(0)[1]);
        for (int i = 1; i < points.size(); i++) {
            int[] a = points.get(i - 1);
            int[] b = points.get(i);
            int[] c = i + 1 < points.size() ? points.get(i + 1) : null;
            boolean isLevel = a[1] == b[1];
            if (c == null || (b[1] == c[1]) != isLevel) {
                text.append(isLevel ? "H" + b[0] : "V" + b[1]);
            }
        }
        return text.toString();
    }
}
