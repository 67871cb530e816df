import java.util.ArrayDeque;
import java.util.ArrayList;
import java.util.Arrays;
import java.util.Comparator;
import java.util.HashMap;
import java.util.HashSet;
import java.util.List;
import java.util.Map;
import java.util.PriorityQueue;
import java.util.Random;
import java.util.Set;
import java.util.TreeSet;

/**
 * Long runs of calls, drawn from fixed seeds, against a model that follows the document's words point
 * by point: it walks over single points of the canvas where the class reckons with lines and segments.
 */
public final class ReferenceRuns {
    static final int NONE = -1000, BAD_INDEX = -1001, BAD_VALUE = -1002, BAD_STATE = -1003, FULL = -1004;
    static final int[] DX = {0, 1, 0, -1};
    static final int[] DY = {-1, 0, 1, 0};

    static int wrong = 0;

    public static void main(String[] args) {
        int runs = args.length > 1 ? Integer.parseInt(args[1]) : 700;
        int firstSeed = args.length > 2 ? Integer.parseInt(args[2]) : 1;
        long calls = 0;
        for (int seed = firstSeed; seed < firstSeed + runs && wrong < 5; seed++) {
            calls += new Run(seed).go();
        }
        System.out.println(calls + " calls in " + runs + " runs, " + wrong + " wrong");
        if (wrong != 0) {
            System.exit(1);
        }
    }

    /** The route of the model: every single point, and the cost. */
    static final class Path {
        final List<int[]> points = new ArrayList<>();
        int cost;

        List<int[]> corners() {
            List<int[]> found = new ArrayList<>();
            for (int i = 0; i < points.size(); i++) {
                if (i == 0 || i == points.size() - 1 || turnsAt(i)) {
                    found.add(points.get(i));
                }
            }
            return found;
        }

        boolean turnsAt(int i) {
            int[] a = points.get(i - 1), b = points.get(i), c = points.get(i + 1);
            return b[0] - a[0] != c[0] - b[0] || b[1] - a[1] != c[1] - b[1];
        }

        Set<String> insides(boolean level) {
            Set<String> found = new HashSet<>();
            for (int i = 1; i < points.size() - 1; i++) {
                if (!turnsAt(i) && (points.get(i)[1] == points.get(i - 1)[1]) == level) {
                    found.add(points.get(i)[0] + "," + points.get(i)[1]);
                }
            }
            return found;
        }

        static Set<String> unitEdges(List<int[]> points, int from, int to) {
            Set<String> found = new HashSet<>();
            for (int i = from; i < to; i++) {
                int[] a = points.get(i), b = points.get(i + 1);
                found.add(Math.min(a[0], b[0]) + "," + Math.min(a[1], b[1]) + (a[1] == b[1] ? "H" : "V"));
            }
            return found;
        }

        boolean sameCorners(Path other) {
            List<int[]> a = corners(), b = other.corners();
            if (a.size() != b.size()) {
                return false;
            }
            for (int i = 0; i < a.size(); i++) {
                if (!Arrays.equals(a.get(i), b.get(i))) {
                    return false;
                }
            }
            return true;
        }
    }

    static final class State {
        List<int[]> boxes = new ArrayList<>();
        List<int[]> ports = new ArrayList<>();
        List<Path> paths = new ArrayList<>();
        int penalty = 10;

        State copy() {
            State s = new State();
            for (int[] b : boxes) {
                s.boxes.add(b.clone());
            }
            for (int[] p : ports) {
                s.ports.add(p.clone());
            }
            s.paths.addAll(paths);
            s.penalty = penalty;
            return s;
        }
    }

    /** A way that the model's search has gone so far. */
    static final class Trail {
        int x, y, direction, cost;
        String steps;
        boolean ended;
    }

    static final class Model {
        State s = new State();
        ArrayDeque<State> history = new ArrayDeque<>();
        String text = "";
        String written = "";
        boolean quiet = false;

        void record() {
            if (quiet) {
                return;
            }
            history.addLast(s.copy());
            if (history.size() > 4) {
                history.removeFirst();
            }
        }

        static boolean soundBox(int x1, int y1, int x2, int y2) {
            return x1 >= 2 && x2 > x1 && x2 <= 97 && y1 >= 2 && y2 > y1 && y2 <= 97;
        }

        boolean tooNear(int except, int[] b) {
            for (int i = 0; i < s.boxes.size(); i++) {
                int[] o = s.boxes.get(i);
                if (i != except && !(b[0] >= o[2] + 2 || o[0] >= b[2] + 2 || b[1] >= o[3] + 2 || o[1] >= b[3] + 2)) {
                    return true;
                }
            }
            return false;
        }

        int addBox(int x1, int y1, int x2, int y2) {
            int[] b = {x1, y1, x2, y2};
            if (!soundBox(x1, y1, x2, y2)) {
                return BAD_VALUE;
            }
            if (tooNear(-1, b)) {
                return BAD_STATE;
            }
            if (s.boxes.size() == 8) {
                return FULL;
            }
            record();
            s.boxes.add(b);
            return s.boxes.size() - 1;
        }

        int moveBox(int box, int dx, int dy) {
            if (box < 0 || box >= s.boxes.size()) {
                return BAD_INDEX;
            }
            if (dx < -99 || dx > 99 || dy < -99 || dy > 99) {
                return BAD_VALUE;
            }
            int[] o = s.boxes.get(box);
            int[] b = {o[0] + dx, o[1] + dy, o[2] + dx, o[3] + dy};
            if (!soundBox(b[0], b[1], b[2], b[3])) {
                return BAD_VALUE;
            }
            if (tooNear(box, b)) {
                return BAD_STATE;
            }
            record();
            s.boxes.set(box, b);
            int n = 0;
            for (int i = 0; i < s.ports.size(); i++) {
                if (s.paths.get(i) != null && touched(i)) {
                    n++;
                }
            }
            return n;
        }

        int box(int box, int what) {
            if (box < 0 || box >= s.boxes.size()) {
                return BAD_INDEX;
            }
            if (what < 0 || what > 4) {
                return BAD_VALUE;
            }
            if (what < 4) {
                return s.boxes.get(box)[what];
            }
            int n = 0;
            for (int[] p : s.ports) {
                n += p[0] == box || p[3] == box ? 1 : 0;
            }
            return n;
        }

        int blocked(int x, int y) {
            for (int i = 0; i < s.boxes.size(); i++) {
                int[] b = s.boxes.get(i);
                if (x > b[0] - 1 && x < b[2] + 1 && y > b[1] - 1 && y < b[3] + 1) {
                    return i;
                }
            }
            return NONE;
        }

        int blocker(int x, int y) {
            return x < 0 || x > 99 || y < 0 || y > 99 ? BAD_VALUE : blocked(x, y);
        }

        int sideLength(int box, int side) {
            int[] b = s.boxes.get(box);
            return side == 0 || side == 2 ? b[2] - b[0] : b[3] - b[1];
        }

        int link(int b, int d, int o, int tb, int td, int to) {
            int n = s.boxes.size();
            if (b < 0 || b >= n || tb < 0 || tb >= n) {
                return BAD_INDEX;
            }
            if (d < 0 || d > 3 || td < 0 || td > 3 || o < 0 || to < 0
                || o > sideLength(b, d) || to > sideLength(tb, td)) {
                return BAD_VALUE;
            }
            if (b == tb && d == td && o == to) {
                return BAD_STATE;
            }
            if (s.ports.size() == 10) {
                return FULL;
            }
            record();
            s.ports.add(new int[] {b, d, o, tb, td, to});
            s.paths.add(null);
            return s.ports.size() - 1;
        }

        boolean noConnector(int c) {
            return c < 0 || c >= s.ports.size();
        }

        int drop(int c) {
            if (noConnector(c)) {
                return BAD_INDEX;
            }
            record();
            s.ports.remove(c);
            s.paths.remove(c);
            return s.ports.size();
        }

        int setPenalty(int p) {
            if (p < 0 || p > 50) {
                return BAD_VALUE;
            }
            record();
            int old = s.penalty;
            s.penalty = p;
            return old;
        }

        int count(int what) {
            int n = s.ports.size();
            int sum = 0;
            switch (what) {
                case 0:
                    return s.boxes.size();
                case 1:
                    return n;
                case 2:
                    return s.penalty;
                case 3:
                    for (int i = 0; i < n; i++) {
                        sum += touched(i) ? 1 : 0;
                    }
                    return sum;
                case 4:
                    for (Path p : s.paths) {
                        sum += p == null ? 0 : p.cost;
                    }
                    return sum;
                case 5:
                    for (int i = 0; i < n; i++) {
                        for (int j = 0; j < i; j++) {
                            sum += crossings(i, j);
                        }
                    }
                    return sum;
                default:
                    return BAD_VALUE;
            }
        }

        int[] portPoint(int c, int end) {
            int[] p = s.ports.get(c);
            int[] b = s.boxes.get(p[3 * end]);
            int o = p[3 * end + 2];
            switch (p[3 * end + 1]) {
                case 0:
                    return new int[] {b[0] + o, b[1]};
                case 1:
                    return new int[] {b[2], b[1] + o};
                case 2:
                    return new int[] {b[0] + o, b[3]};
                default:
                    return new int[] {b[0], b[1] + o};
            }
        }

        int[] outerPoint(int c, int end) {
            int[] p = portPoint(c, end);
            int side = s.ports.get(c)[3 * end + 1];
            return new int[] {p[0] + DX[side], p[1] + DY[side]};
        }

        boolean touched(int c) {
            Path path = s.paths.get(c);
            if (path == null) {
                return true;
            }
            int n = path.points.size();
            if (!Arrays.equals(path.points.get(0), portPoint(c, 0))
                || !Arrays.equals(path.points.get(n - 1), portPoint(c, 1))) {
                return true;
            }
            for (int i = 1; i < n - 1; i++) {
                if (blocked(path.points.get(i)[0], path.points.get(i)[1]) != NONE) {
                    return true;
                }
            }
            return false;
        }

        int connector(int c, int what) {
            if (noConnector(c)) {
                return BAD_INDEX;
            }
            if (what < 0 || what > 11) {
                return BAD_VALUE;
            }
            if (what < 6) {
                return s.ports.get(c)[what];
            }
            if (what < 10) {
                return portPoint(c, (what - 6) / 2)[what % 2];
            }
            return what == 10 ? (s.paths.get(c) != null ? 1 : 0) : (touched(c) ? 1 : 0);
        }

        /** A search forward, cheapest first and then by the text of the steps. */
        Path search(int c) {
            int[] from = outerPoint(c, 0), to = outerPoint(c, 1);
            int side = s.ports.get(c)[1], toSide = s.ports.get(c)[4];
            TreeSet<Integer> xs = new TreeSet<>(), ys = new TreeSet<>();
            for (int[] b : s.boxes) {
                xs.addAll(Arrays.asList(b[0] - 1, b[2] + 1));
                ys.addAll(Arrays.asList(b[1] - 1, b[3] + 1));
            }
            xs.addAll(Arrays.asList(from[0], to[0]));
            ys.addAll(Arrays.asList(from[1], to[1]));
            PriorityQueue<Trail> open = new PriorityQueue<>(
                Comparator.<Trail>comparingInt(t -> t.cost).thenComparing(t -> t.steps));
            Trail first = new Trail();
            first.x = from[0];
            first.y = from[1];
            first.direction = side;
            first.cost = 2;
            first.steps = "";
            open.add(first);
            Set<Integer> closed = new HashSet<>();
            while (!open.isEmpty()) {
                Trail t = open.poll();
                if (t.ended) {
                    return draw(c, t, xs, ys);
                }
                if (!closed.add((t.x * 100 + t.y) * 4 + t.direction)) {
                    continue;
                }
                if (t.x == to[0] && t.y == to[1] && t.direction != toSide) {
                    Trail end = new Trail();
                    end.cost = t.cost + (t.direction == (toSide + 2) % 4 ? 0 : s.penalty);
                    end.steps = t.steps;
                    end.ended = true;
                    open.add(end);
                }
                for (int d = 0; d < 4; d++) {
                    int length = d == (t.direction + 2) % 4 ? 0 : stepLength(t.x, t.y, d, xs, ys);
                    if (length > 0) {
                        Trail n = new Trail();
                        n.x = t.x + DX[d] * length;
                        n.y = t.y + DY[d] * length;
                        n.direction = d;
                        n.cost = t.cost + length + (d == t.direction ? 0 : s.penalty);
                        n.steps = t.steps + d;
                        open.add(n);
                    }
                }
            }
            return null;
        }

        /** How far the next node is; 0 if there is none that is joined. */
        int stepLength(int x, int y, int d, TreeSet<Integer> xs, TreeSet<Integer> ys) {
            for (int length = 1; length < 100; length++) {
                int px = x + DX[d] * length, py = y + DY[d] * length;
                if (px < 0 || py < 0 || px > 99 || py > 99 || blocked(px, py) != NONE) {
                    return 0;
                }
                if (xs.contains(px) && ys.contains(py)) {
                    return length;
                }
            }
            return 0;
        }

        Path draw(int c, Trail t, TreeSet<Integer> xs, TreeSet<Integer> ys) {
            Path path = new Path();
            path.cost = t.cost;
            path.points.add(portPoint(c, 0));
            int[] at = outerPoint(c, 0);
            path.points.add(at.clone());
            for (int i = 0; i < t.steps.length(); i++) {
                int d = t.steps.charAt(i) - '0';
                int length = stepLength(at[0], at[1], d, xs, ys);
                for (int k = 0; k < length; k++) {
                    at[0] += DX[d];
                    at[1] += DY[d];
                    path.points.add(at.clone());
                }
            }
            path.points.add(portPoint(c, 1));
            return path;
        }

        int route(int c) {
            if (noConnector(c)) {
                return BAD_INDEX;
            }
            record();
            Path p = search(c);
            if (p == null) {
                return NONE;
            }
            s.paths.set(c, p);
            return p.cost;
        }

        int routeAll() {
            record();
            int n = 0;
            for (int i = 0; i < s.ports.size(); i++) {
                Path p = search(i), old = s.paths.get(i);
                if (p != null) {
                    n += old == null || !old.sameCorners(p) ? 1 : 0;
                    s.paths.set(i, p);
                }
            }
            return n;
        }

        int reroute() {
            record();
            int n = 0;
            for (int i = 0; i < s.ports.size(); i++) {
                Path p = touched(i) ? search(i) : null;
                if (p != null) {
                    n++;
                    s.paths.set(i, p);
                }
            }
            return n;
        }

        int refresh() {
            record();
            int n = 0;
            for (int i = 0; i < s.ports.size(); i++) {
                Path p = search(i), old = s.paths.get(i);
                if (p != null && (touched(i) || old.cost > p.cost)) {
                    n++;
                    s.paths.set(i, p);
                }
            }
            return n;
        }

        int best(int c) {
            if (noConnector(c)) {
                return BAD_INDEX;
            }
            Path p = search(c);
            return p == null ? NONE : p.cost;
        }

        int measure(int c, int what) {
            if (noConnector(c)) {
                return BAD_INDEX;
            }
            if (what < 0 || what > 3) {
                return BAD_VALUE;
            }
            Path p = s.paths.get(c);
            if (p == null) {
                return BAD_STATE;
            }
            return new int[] {p.cost, p.points.size() - 1, p.corners().size(), p.corners().size() - 1}[what];
        }

        int corner(int c, int k, int what) {
            if (noConnector(c) || s.paths.get(c) == null || k < 0 || k >= s.paths.get(c).corners().size()) {
                return BAD_INDEX;
            }
            return what < 0 || what > 1 ? BAD_VALUE : s.paths.get(c).corners().get(k)[what];
        }

        int isOn(int c, int x, int y) {
            if (noConnector(c)) {
                return BAD_INDEX;
            }
            Path p = s.paths.get(c);
            int answer = 0;
            if (p != null) {
                for (int[] q : p.points) {
                    answer = q[0] == x && q[1] == y ? Math.max(answer, 1) : answer;
                }
                for (int[] q : p.corners()) {
                    answer = q[0] == x && q[1] == y ? 2 : answer;
                }
            }
            return answer;
        }

        int crossings(int c, int o) {
            if (noConnector(c) || noConnector(o)) {
                return BAD_INDEX;
            }
            Path a = s.paths.get(c), b = s.paths.get(o);
            if (a == null || b == null || c == o) {
                return 0;
            }
            Set<String> one = a.insides(true), two = a.insides(false);
            one.retainAll(b.insides(false));
            two.retainAll(b.insides(true));
            one.addAll(two);
            return one.size();
        }

        int shared(int c, int o) {
            if (noConnector(c) || noConnector(o)) {
                return BAD_INDEX;
            }
            Path a = s.paths.get(c), b = s.paths.get(o);
            if (a == null || b == null) {
                return 0;
            }
            Set<String> common = Path.unitEdges(a.points, 0, a.points.size() - 1);
            common.retainAll(Path.unitEdges(b.points, 0, b.points.size() - 1));
            return common.size();
        }

        /** An inner segment of some route, with its unit edges. */
        static final class Inner {
            int connector, number, pull, line, lane, bundle;
            Set<String> edges;
        }

        List<Inner> inners() {
            List<Inner> all = new ArrayList<>();
            for (int c = 0; c < s.paths.size(); c++) {
                if (s.paths.get(c) == null) {
                    continue;
                }
                List<int[]> k = s.paths.get(c).corners();
                for (int i = 1; i + 2 < k.size(); i++) {
                    int axis = k.get(i)[1] == k.get(i + 1)[1] ? 1 : 0;
                    Inner n = new Inner();
                    n.connector = c;
                    n.number = i;
                    n.line = k.get(i)[axis];
                    n.pull = k.get(i - 1)[axis] + k.get(i + 2)[axis] - 2 * n.line;
                    n.bundle = all.size();
                    List<int[]> points = s.paths.get(c).points;
                    n.edges = Path.unitEdges(points, indexOf(points, k.get(i)), indexOf(points, k.get(i + 1)));
                    all.add(n);
                }
            }
            return all;
        }

        static int indexOf(List<int[]> points, int[] p) {
            for (int i = 1; i < points.size() - 1; i++) {
                if (Arrays.equals(points.get(i), p)) {
                    return i;
                }
            }
            throw new IllegalStateException("an inner corner must be a point between the ends");
        }

        static boolean collide(Inner a, Inner b) {
            for (String e : a.edges) {
                if (b.edges.contains(e)) {
                    return true;
                }
            }
            return false;
        }

        int lane(int c, int segment, int what) {
            List<Inner> all = inners();
            Inner own = null;
            for (Inner n : all) {
                own = n.connector == c && n.number == segment ? n : own;
            }
            if (own == null) {
                return BAD_INDEX;
            }
            if (what < 0 || what > 3) {
                return BAD_VALUE;
            }
            for (Inner a : all) {
                for (Inner b : all) {
                    if (a.bundle != b.bundle && collide(a, b)) {
                        int lost = b.bundle;
                        for (Inner n : all) {
                            n.bundle = n.bundle == lost ? a.bundle : n.bundle;
                        }
                    }
                }
            }
            int bundle = own.bundle;
            all.removeIf(n -> n.bundle != bundle);
            all.sort(Comparator.<Inner>comparingInt(n -> n.pull).thenComparingInt(n -> n.connector)
                .thenComparingInt(n -> n.number));
            int lanes = 0;
            for (int i = 0; i < all.size(); i++) {
                for (int j = 0; j < i; j++) {
                    if (collide(all.get(i), all.get(j))) {
                        all.get(i).lane = Math.max(all.get(i).lane, all.get(j).lane + 1);
                    }
                }
                lanes = Math.max(lanes, all.get(i).lane + 1);
            }
            int place = 20 * own.line + (2 * own.lane - (lanes - 1)) * 4;
            return new int[] {own.pull, own.lane, lanes, place}[what];
        }

        int write(int c) {
            if (noConnector(c)) {
                return BAD_INDEX;
            }
            if (s.paths.get(c) == null) {
                return BAD_STATE;
            }
            List<int[]> k = s.paths.get(c).corners();
            written = "M" + k.get(0)[0] + "," + k.get(0)[1];
            for (int i = 1; i < k.size(); i++) {
                boolean level = k.get(i)[1] == k.get(i - 1)[1];
                written += level ? "H" + k.get(i)[0] : "V" + k.get(i)[1];
            }
            return written.length();
        }

        int written(int i) {
            return i < 0 || i >= written.length() ? BAD_INDEX : written.charAt(i);
        }

        int type(int code) {
            if (code < 0 || code > 255) {
                return BAD_VALUE;
            }
            if (text.length() == 120) {
                return FULL;
            }
            text += (char) code;
            return text.length();
        }

        int clearText() {
            int n = text.length();
            text = "";
            return n;
        }

        static final Map<String, Integer> WORDS = new HashMap<>();
        static {
            WORDS.put("box", 4);
            WORDS.put("link", 6);
            WORDS.put("route", 1);
            WORDS.put("drop", 1);
            WORDS.put("penalty", 1);
            WORDS.put("all", 0);
        }

        /** Reads whole tokens first, then looks which kinds can stand where. */
        int textFault() {
            int needed = -1; // -1: a word must come; otherwise so many numbers must come
            int i = 0;
            while (i < text.length()) {
                char ch = text.charAt(i);
                int end = i + 1;
                boolean letter = ch >= 'a' && ch <= 'z', digit = ch >= '0' && ch <= '9';
                while (end < text.length() && (letter && Character.toString(text.charAt(end)).matches("[a-z]")
                    || digit && Character.toString(text.charAt(end)).matches("[0-9]"))) {
                    end++;
                }
                String token = text.substring(i, end);
                if (letter) {
                    if (needed != -1 || !WORDS.containsKey(token)) {
                        return i;
                    }
                    needed = WORDS.get(token);
                } else if (digit) {
                    if (needed <= 0 || token.length() > 3) {
                        return i;
                    }
                    needed--;
                } else if (ch == ';') {
                    if (needed != 0) {
                        return i;
                    }
                    needed = -1;
                } else if (ch != ' ') {
                    return i;
                }
                i = end;
            }
            return needed == 0 ? NONE : text.length();
        }

        int run() {
            if (textFault() != NONE) {
                return BAD_STATE;
            }
            record();
            quiet = true;
            int done = 0;
            for (String command : text.split(";")) {
                if (perform(command.trim().replaceAll("([a-z])([0-9])", "$1 $2").split(" +")) < NONE) {
                    break;
                }
                done++;
            }
            quiet = false;
            return done;
        }

        int perform(String[] w) {
            int[] n = new int[w.length];
            for (int i = 1; i < w.length; i++) {
                n[i] = Integer.parseInt(w[i]);
            }
            switch (w[0]) {
                case "box":
                    return addBox(n[1], n[2], n[3], n[4]);
                case "link":
                    return link(n[1], n[2], n[3], n[4], n[5], n[6]);
                case "route":
                    return route(n[1]);
                case "drop":
                    return drop(n[1]);
                case "penalty":
                    return setPenalty(n[1]);
                default:
                    return routeAll();
            }
        }

        int undo() {
            if (history.isEmpty()) {
                return BAD_STATE;
            }
            s = history.removeLast();
            return history.size();
        }

        long digest() {
            List<Integer> v = new ArrayList<>();
            v.add(s.boxes.size());
            for (int[] b : s.boxes) {
                v.addAll(Arrays.asList(b[0], b[1], b[2], b[3]));
            }
            v.add(s.penalty);
            v.add(s.ports.size());
            for (int i = 0; i < s.ports.size(); i++) {
                for (int p : s.ports.get(i)) {
                    v.add(p);
                }
                Path path = s.paths.get(i);
                v.add(path == null ? 0 : 1);
                if (path != null) {
                    v.add(path.cost);
                    v.add(path.corners().size());
                    for (int[] k : path.corners()) {
                        v.add(k[0]);
                        v.add(k[1]);
                    }
                }
            }
            long h = 19;
            for (int x : v) {
                h = 31 * h + x;
            }
            return h;
        }
    }

    /** One object of the class and one of the model, which get the same calls. */
    static final class Run {
        final int seed;
        final Random random;
        final ConnectorRouter x = new ConnectorRouter();
        final Model m = new Model();
        int calls = 0;
        int room;

        Run(int seed) {
            this.seed = seed;
            random = new Random(seed);
        }

        int below(int n) {
            return random.nextInt(n);
        }

        void same(String call, long got, long want) {
            calls++;
            if (got != want) {
                wrong++;
                System.out.println("seed " + seed + ", call " + calls + ": " + call
                    + " answered " + got + ", due is " + want);
            }
        }

        int go() {
            // In every second run the boxes are small and close together, so that many lines coincide.
            boolean isTight = seed % 2 == 0;
            room = isTight ? 12 + below(20) : 100;
            int size = isTight ? 1 + below(8) : 10 + below(40);
            // A round makes at most 34 calls from here on, which keeps to the 512 that an object is good for.
            while (calls < 478 && wrong == 0) {
                change(size);
                ask();
                same("digest()", x.digest(), m.digest());
            }
            return calls;
        }

        int anyBox() {
            return below(20) == 0 ? below(12) - 2 : below(Math.max(1, m.s.boxes.size()));
        }

        int anyConnector() {
            return below(20) == 0 ? below(14) - 2 : below(Math.max(1, m.s.ports.size()));
        }

        void change(int size) {
            switch (below(m.s.boxes.size() < 3 ? 4 : 16)) {
                case 0:
                case 1:
                case 2:
                    newBox(size);
                    break;
                case 3:
                case 4:
                case 5:
                case 6:
                    newLink();
                    break;
                case 7:
                case 8:
                    move();
                    break;
                case 9: {
                    int c = anyConnector();
                    same("route(" + c + ")", x.route(c), m.route(c));
                    break;
                }
                case 10:
                    same("routeAll()", x.routeAll(), m.routeAll());
                    break;
                case 11:
                    same("reroute()", x.reroute(), m.reroute());
                    break;
                case 12:
                    same("refresh()", x.refresh(), m.refresh());
                    break;
                case 13: {
                    int p = below(4) == 0 ? 0 : below(56) - 2;
                    same("setPenalty(" + p + ")", x.setPenalty(p), m.setPenalty(p));
                    break;
                }
                case 14: {
                    if (below(3) == 0) {
                        same("undo()", x.undo(), m.undo());
                    } else if (below(3) == 0) {
                        int c = anyConnector();
                        same("drop(" + c + ")", x.drop(c), m.drop(c));
                    }
                    break;
                }
                default:
                    if (below(3) == 0) {
                        runText(size);
                    }
                    break;
            }
        }

        void newBox(int size) {
            int x1 = below(room), y1 = below(room);
            int x2 = x1 + 1 + below(size), y2 = y1 + 1 + below(size);
            if (below(30) == 0) {
                x2 = x1 - below(3);
            }
            same("addBox(" + x1 + ", " + y1 + ", " + x2 + ", " + y2 + ")",
                x.addBox(x1, y1, x2, y2), m.addBox(x1, y1, x2, y2));
        }

        void newLink() {
            int b = anyBox(), tb = anyBox();
            int d = below(4), td = below(4);
            int o = below(25) == 0 ? below(102) - 2 : offset(b, d);
            int to = below(25) == 0 ? below(102) - 2 : offset(tb, td);
            if (below(40) == 0) {
                d = below(2) * 5 - 1;
            }
            if (below(40) == 0) {
                td = d;
                to = o;
                tb = b;
            }
            same("link(" + b + ", " + d + ", " + o + ", " + tb + ", " + td + ", " + to + ")",
                x.link(b, d, o, tb, td, to), m.link(b, d, o, tb, td, to));
        }

        int offset(int b, int d) {
            if (b < 0 || b >= m.s.boxes.size()) {
                return below(5);
            }
            int length = m.sideLength(b, d);
            int pick = below(4);
            return pick == 0 ? 0 : pick == 1 ? length : below(length + 1);
        }

        void move() {
            int b = anyBox();
            int far = 1 + below(12);
            int dx = below(2 * far + 1) - far, dy = below(2 * far + 1) - far;
            if (below(40) == 0) {
                dx = below(202) - 101;
            }
            same("moveBox(" + b + ", " + dx + ", " + dy + ")", x.moveBox(b, dx, dy), m.moveBox(b, dx, dy));
        }

        void runText(int size) {
            same("clearText()", x.clearText(), m.clearText());
            StringBuilder t = new StringBuilder();
            int commands = 1 + below(6);
            for (int i = 0; i < commands; i++) {
                t.append(i == 0 ? "" : ";").append(blanks(0)).append(command(size)).append(blanks(0));
            }
            if (below(3) == 0) {
                t.setCharAt(below(t.length()), "abxol 019;:/`{A".charAt(below(15)));
            }
            if (below(6) == 0) {
                t.setLength(below(t.length() + 1));
            }
            if (below(8) == 0) {
                t.insert(below(t.length() + 1), "; 7a".charAt(below(4)));
            }
            for (int i = 0; i < t.length() && i < 122 && calls < 440; i++) {
                same("type(" + (int) t.charAt(i) + ")", x.type(t.charAt(i)), m.type(t.charAt(i)));
                if (below(10) == 0) {
                    same("textFault() of " + m.text, x.textFault(), m.textFault());
                }
            }
            same("textFault() of " + m.text, x.textFault(), m.textFault());
            same("run() of " + m.text, x.run(), m.run());
        }

        String blanks(int least) {
            return "   ".substring(0, below(4) == 0 ? least + below(3 - least) : least);
        }

        String command(int size) {
            switch (below(7)) {
                case 0: {
                    int x1 = below(room), y1 = below(room);
                    return "box" + blanks(0) + x1 + blanks(1) + " " + y1 + " " + (x1 + 1 + below(size)) + " "
                        + (y1 + 1 + below(size));
                }
                case 1:
                case 2: {
                    int b = below(Math.max(1, m.s.boxes.size())), tb = below(Math.max(1, m.s.boxes.size()));
                    int d = below(4), td = below(4);
                    return "link " + b + " " + d + blanks(1) + " " + offset(b, d) + " 0" + tb + " " + td + " "
                        + offset(tb, td);
                }
                case 3:
                    return "route" + blanks(1) + below(Math.max(1, m.s.ports.size()));
                case 4:
                    return "drop " + blanks(1) + below(Math.max(1, m.s.ports.size()) + 1);
                case 5:
                    return "penalty" + blanks(1) + below(53);
                default:
                    return "all";
            }
        }

        void ask() {
            for (int i = 0; i < 6; i++) {
                int c = anyConnector(), o = anyConnector();
                switch (below(13)) {
                    case 0: {
                        int b = anyBox(), w = below(7) - 1;
                        same("box(" + b + ", " + w + ")", x.box(b, w), m.box(b, w));
                        break;
                    }
                    case 1: {
                        int px = below(103) - 1, py = below(103) - 1;
                        same("blocker(" + px + ", " + py + ")", x.blocker(px, py), m.blocker(px, py));
                        break;
                    }
                    case 2: {
                        int w = below(8) - 1;
                        same("count(" + w + ")", x.count(w), m.count(w));
                        break;
                    }
                    case 3: {
                        int w = below(14) - 1;
                        same("connector(" + c + ", " + w + ")", x.connector(c, w), m.connector(c, w));
                        break;
                    }
                    case 4:
                        same("best(" + c + ")", x.best(c), m.best(c));
                        break;
                    case 5: {
                        int w = below(6) - 1;
                        same("measure(" + c + ", " + w + ")", x.measure(c, w), m.measure(c, w));
                        break;
                    }
                    case 6: {
                        int k = below(9) - 1, w = below(9) == 0 ? below(4) - 1 : below(2);
                        same("corner(" + c + ", " + k + ", " + w + ")", x.corner(c, k, w), m.corner(c, k, w));
                        break;
                    }
                    case 7:
                        askIsOn(c);
                        break;
                    case 8:
                        same("crossings(" + c + ", " + o + ")", x.crossings(c, o), m.crossings(c, o));
                        break;
                    case 9:
                        same("shared(" + c + ", " + o + ")", x.shared(c, o), m.shared(c, o));
                        break;
                    case 10:
                    case 11: {
                        int k = below(6), w = below(9) == 0 ? below(6) - 1 : below(4);
                        same("lane(" + c + ", " + k + ", " + w + ")", x.lane(c, k, w), m.lane(c, k, w));
                        break;
                    }
                    default:
                        same("write(" + c + ")", x.write(c), m.write(c));
                        for (int k = 0; k < 4; k++) {
                            int at = below(m.written.length() + 3) - 1;
                            same("written(" + at + ")", x.written(at), m.written(at));
                        }
                        break;
                }
            }
        }

        void askIsOn(int c) {
            int px = below(100), py = below(100);
            Path p = m.noConnector(c) ? null : m.s.paths.get(c);
            if (p != null) {
                int[] q = p.points.get(below(p.points.size()));
                px = q[0] + (below(3) == 0 ? below(3) - 1 : 0);
                py = q[1] + (below(3) == 0 ? below(3) - 1 : 0);
            }
            same("isOn(" + c + ", " + px + ", " + py + ")", x.isOn(c, px, py), m.isOn(c, px, py));
        }
    }
}
