import java.util.Arrays;

/**
 * Connectors between boxes, with horizontal and vertical segments only. The document's promises are
 * the public methods here; the classes inside hold the canvas, search ways, and read commands.
 */
public final class ConnectorRouter {

    public static final int NONE = -1000, BAD_INDEX = -1001, BAD_VALUE = -1002, BAD_STATE = -1003, FULL = -1004;

    private static final int MAX_BOXES = 8;
    private static final int MAX_CONNECTORS = 10;
    private static final int LAST_COORDINATE = 99;
    private static final int MAX_PENALTY = 50;
    private static final int NOT_THERE = -1;

    private final Canvas canvas = new Canvas();
    private final History history = new History();
    private final WayFinder finder = new WayFinder();
    private final Bundle bundle = new Bundle();
    private final CommandText text = new CommandText();
    private final StringBuilder writing = new StringBuilder();
    // The commands of a text are recorded as one call, so they must not record themselves.
    private boolean running;

    public ConnectorRouter() {
    }

    // ---- boxes

    public int addBox(int x1, int y1, int x2, int y2) {
        if (!Canvas.isSound(x1, y1, x2, y2)) {
            return BAD_VALUE;
        }
        if (canvas.isTooNear(NOT_THERE, x1, y1, x2, y2)) {
            return BAD_STATE;
        }
        if (canvas.boxes >= MAX_BOXES) {
            return FULL;
        }
        remember();
        int box = canvas.boxes;
        canvas.boxes++;
        canvas.putBox(box, x1, y1, x2, y2);
        return box;
    }

    public int moveBox(int box, int dx, int dy) {
        if (!canvas.hasBox(box)) {
            return BAD_INDEX;
        }
        if (!isWithin(dx, -LAST_COORDINATE, LAST_COORDINATE) || !isWithin(dy, -LAST_COORDINATE, LAST_COORDINATE)) {
            return BAD_VALUE;
        }
        int x1 = canvas.edge(box, Canvas.X1) + dx;
        int y1 = canvas.edge(box, Canvas.Y1) + dy;
        int x2 = canvas.edge(box, Canvas.X2) + dx;
        int y2 = canvas.edge(box, Canvas.Y2) + dy;
        if (!Canvas.isSound(x1, y1, x2, y2)) {
            return BAD_VALUE;
        }
        if (canvas.isTooNear(box, x1, y1, x2, y2)) {
            return BAD_STATE;
        }
        remember();
        canvas.putBox(box, x1, y1, x2, y2);
        return canvas.touchedConnectors() - canvas.connectorsWithoutRoute();
    }

    public int box(int box, int what) {
        if (!canvas.hasBox(box)) {
            return BAD_INDEX;
        }
        if (!isWithin(what, 0, 4)) {
            return BAD_VALUE;
        }
        return what < 4 ? canvas.edge(box, what) : canvas.connectorsAt(box);
    }

    public int blocker(int x, int y) {
        if (!isWithin(x, 0, LAST_COORDINATE) || !isWithin(y, 0, LAST_COORDINATE)) {
            return BAD_VALUE;
        }
        int box = canvas.firstBoxOn(x, y, x, y);
        return box == NOT_THERE ? NONE : box;
    }

    // ---- connectors

    public int link(int box, int side, int offset, int toBox, int toSide, int toOffset) {
        if (!canvas.hasBox(box) || !canvas.hasBox(toBox)) {
            return BAD_INDEX;
        }
        if (!canvas.hasPort(box, side, offset) || !canvas.hasPort(toBox, toSide, toOffset)) {
            return BAD_VALUE;
        }
        if (box == toBox && side == toSide && offset == toOffset) {
            return BAD_STATE;
        }
        if (canvas.connectors >= MAX_CONNECTORS) {
            return FULL;
        }
        remember();
        int connector = canvas.connectors;
        canvas.connectors++;
        canvas.routes[connector] = null;
        canvas.putPort(connector, Canvas.FIRST, box, side, offset);
        canvas.putPort(connector, Canvas.LAST, toBox, toSide, toOffset);
        return connector;
    }

    public int drop(int connector) {
        if (!canvas.hasConnector(connector)) {
            return BAD_INDEX;
        }
        remember();
        canvas.removeConnector(connector);
        return canvas.connectors;
    }

    public int setPenalty(int penalty) {
        if (!isWithin(penalty, 0, MAX_PENALTY)) {
            return BAD_VALUE;
        }
        remember();
        int previous = canvas.penalty;
        canvas.penalty = penalty;
        return previous;
    }

    public int count(int what) {
        switch (what) {
            case 0:
                return canvas.boxes;
            case 1:
                return canvas.connectors;
            case 2:
                return canvas.penalty;
            case 3:
                return canvas.touchedConnectors();
            case 4:
                return canvas.costOfRoutes();
            case 5:
                return canvas.crossingsOfPairs();
            default:
                return BAD_VALUE;
        }
    }

    public int connector(int connector, int what) {
        if (!canvas.hasConnector(connector)) {
            return BAD_INDEX;
        }
        if (!isWithin(what, 0, 11)) {
            return BAD_VALUE;
        }
        switch (what) {
            case 6:
                return canvas.portX(connector, Canvas.FIRST);
            case 7:
                return canvas.portY(connector, Canvas.FIRST);
            case 8:
                return canvas.portX(connector, Canvas.LAST);
            case 9:
                return canvas.portY(connector, Canvas.LAST);
            case 10:
                return canvas.routes[connector] != null ? 1 : 0;
            case 11:
                return canvas.isTouched(connector) ? 1 : 0;
            default:
                return canvas.portDetail(connector, what);
        }
    }

    // ---- routing

    public int route(int connector) {
        if (!canvas.hasConnector(connector)) {
            return BAD_INDEX;
        }
        remember();
        int cost = finder.findCost(canvas, connector);
        if (cost != NONE) {
            takeWay(connector, cost);
        }
        return cost;
    }

    public int routeAll() {
        remember();
        int changed = 0;
        for (int i = 0; i < canvas.connectors; i++) {
            int cost = finder.findCost(canvas, i);
            if (cost != NONE && takeWay(i, cost)) {
                changed++;
            }
        }
        return changed;
    }

    public int reroute() {
        remember();
        int routed = 0;
        for (int i = 0; i < canvas.connectors; i++) {
            if (!canvas.isTouched(i)) {
                continue;
            }
            int cost = finder.findCost(canvas, i);
            if (cost != NONE) {
                takeWay(i, cost);
                routed++;
            }
        }
        return routed;
    }

    public int refresh() {
        remember();
        int routed = 0;
        for (int i = 0; i < canvas.connectors; i++) {
            int cost = finder.findCost(canvas, i);
            if (cost == NONE) {
                continue;
            }
            Route old = canvas.routes[i];
            if (old == null || old.cost > cost || canvas.isTouched(i)) {
                takeWay(i, cost);
                routed++;
            }
        }
        return routed;
    }

    public int best(int connector) {
        if (!canvas.hasConnector(connector)) {
            return BAD_INDEX;
        }
        return finder.findCost(canvas, connector);
    }

    // ---- routes

    public int measure(int connector, int what) {
        if (!canvas.hasConnector(connector)) {
            return BAD_INDEX;
        }
        if (!isWithin(what, 0, 3)) {
            return BAD_VALUE;
        }
        Route route = canvas.routes[connector];
        if (route == null) {
            return BAD_STATE;
        }
        switch (what) {
            case 0:
                return route.cost;
            case 1:
                return route.length();
            case 2:
                return route.corners();
            default:
                return route.segments();
        }
    }

    public int corner(int connector, int corner, int what) {
        Route route = canvas.routeOf(connector);
        if (route == null || !isWithin(corner, 0, route.corners() - 1)) {
            return BAD_INDEX;
        }
        if (!isWithin(what, 0, 1)) {
            return BAD_VALUE;
        }
        return what == 0 ? route.xs[corner] : route.ys[corner];
    }

    public int isOn(int connector, int x, int y) {
        if (!canvas.hasConnector(connector)) {
            return BAD_INDEX;
        }
        Route route = canvas.routes[connector];
        if (route == null) {
            return 0;
        }
        if (route.hasCornerAt(x, y)) {
            return 2;
        }
        return route.passes(x, y) ? 1 : 0;
    }

    public int crossings(int connector, int other) {
        if (!canvas.hasConnector(connector) || !canvas.hasConnector(other)) {
            return BAD_INDEX;
        }
        return connector == other ? 0 : canvas.crossingsOf(connector, other);
    }

    public int shared(int connector, int other) {
        if (!canvas.hasConnector(connector) || !canvas.hasConnector(other)) {
            return BAD_INDEX;
        }
        Route one = canvas.routes[connector];
        Route two = canvas.routes[other];
        if (one == null || two == null) {
            return 0;
        }
        return connector == other ? one.length() : one.sharedLengthWith(two);
    }

    public int lane(int connector, int segment, int what) {
        Route route = canvas.routeOf(connector);
        if (route == null || !route.isInner(segment)) {
            return BAD_INDEX;
        }
        if (!isWithin(what, 0, 3)) {
            return BAD_VALUE;
        }
        if (what == 0) {
            return route.pullOf(segment);
        }
        bundle.gather(canvas, connector, segment);
        bundle.assignLanes();
        int own = bundle.ownLane();
        int lanes = bundle.lanesOfOwn();
        switch (what) {
            case 1:
                return own;
            case 2:
                return lanes;
            default:
                return 20 * route.lineOf(segment) + (2 * own - (lanes - 1)) * 4;
        }
    }

    public int write(int connector) {
        if (!canvas.hasConnector(connector)) {
            return BAD_INDEX;
        }
        Route route = canvas.routes[connector];
        if (route == null) {
            return BAD_STATE;
        }
        writing.setLength(0);
        for (int i = 0; i < route.corners(); i++) {
            if (i == 0) {
                writing.append('M').append(route.xs[i]).append(',').append(route.ys[i]);
            } else if (route.isLevel(i - 1)) {
                writing.append('H').append(route.xs[i]);
            } else {
                writing.append('V').append(route.ys[i]);
            }
        }
        return writing.length();
    }

    public int written(int index) {
        if (!isWithin(index, 0, writing.length() - 1)) {
            return BAD_INDEX;
        }
        return writing.charAt(index);
    }

    // ---- text, history

    public int type(int code) {
        if (!isWithin(code, 0, 255)) {
            return BAD_VALUE;
        }
        if (text.length >= CommandText.CAPACITY) {
            return FULL;
        }
        text.append(code);
        return text.length;
    }

    public int clearText() {
        int previous = text.length;
        text.length = 0;
        return previous;
    }

    public int textFault() {
        return text.findFault();
    }

    public int run() {
        if (text.findFault() != NONE) {
            return BAD_STATE;
        }
        remember();
        running = true;
        int carriedOut = 0;
        text.rewind();
        for (int i = 0; i < CommandText.CAPACITY && text.readCommand(); i++) {
            if (isError(carryOut(text.word, text.numbers))) {
                break;
            }
            carriedOut++;
        }
        running = false;
        return carriedOut;
    }

    public int undo() {
        if (history.size == 0) {
            return BAD_STATE;
        }
        history.restore(canvas);
        return history.size;
    }

    public long digest() {
        long hash = 31L * 19L + canvas.boxes;
        for (int i = 0; i < canvas.boxes; i++) {
            for (int what = 0; what < 4; what++) {
                hash = 31L * hash + canvas.edge(i, what);
            }
        }
        hash = 31L * hash + canvas.penalty;
        hash = 31L * hash + canvas.connectors;
        for (int i = 0; i < canvas.connectors; i++) {
            for (int what = 0; what < 6; what++) {
                hash = 31L * hash + canvas.portDetail(i, what);
            }
            Route route = canvas.routes[i];
            hash = route == null ? 31L * hash : route.hashOnto(31L * hash + 1L);
        }
        return hash;
    }

    // ---- what several methods need

    private static boolean isWithin(int value, int least, int greatest) {
        return value >= least && value <= greatest;
    }

    private static boolean isError(int result) {
        return result < NONE;
    }

    private void remember() {
        if (!running) {
            history.keep(canvas);
        }
    }

    /** Makes the way that was just found the route of its connector; tells whether its corners are new. */
    private boolean takeWay(int connector, int cost) {
        finder.walk();
        Route old = canvas.routes[connector];
        if (old == null || !finder.walkedAlong(old)) {
            canvas.routes[connector] = finder.makeRoute(cost);
            return true;
        }
        // Routes never change, so the old one or its corners are used again: this spares room.
        if (old.cost != cost) {
            canvas.routes[connector] = new Route(cost, old.xs, old.ys);
        }
        return false;
    }

    private int carryOut(int word, int[] n) {
        switch (word) {
            case CommandText.BOX:
                return addBox(n[0], n[1], n[2], n[3]);
            case CommandText.LINK:
                return link(n[0], n[1], n[2], n[3], n[4], n[5]);
            case CommandText.ROUTE:
                return route(n[0]);
            case CommandText.DROP:
                return drop(n[0]);
            case CommandText.PENALTY:
                return setPenalty(n[0]);
            default:
                return routeAll();
        }
    }

    /** The directions, which are the sides of boxes too. */
    private static final class Direction {
        static final int UP = 0, RIGHT = 1, DOWN = 2, LEFT = 3;
        static final int COUNT = 4;
        private static final int[] STEP_X = {0, 1, 0, -1};
        private static final int[] STEP_Y = {-1, 0, 1, 0};

        private Direction() {
        }

        static int opposite(int direction) {
            return direction ^ 2;
        }

        static boolean isUpright(int direction) {
            return (direction & 1) == 0;
        }

        static int stepX(int direction) {
            return STEP_X[direction & 3];
        }

        static int stepY(int direction) {
            return STEP_Y[direction & 3];
        }
    }

    /** The state that the history keeps: boxes, penalty, connectors and their routes. */
    private static final class Canvas {
        static final int X1 = 0, Y1 = 1, X2 = 2, Y2 = 3;
        static final int FIRST = 0, LAST = 1;
        private static final int LEAST_EDGE = 2, GREATEST_EDGE = 97, LEAST_GAP = 2;
        private static final int PORT_BOX = 0, PORT_SIDE = 1, PORT_OFFSET = 2;

        int boxes;
        int connectors;
        int penalty = 10;
        // For each box X1, Y1, X2 and Y2; for each connector box, side and offset of both ports.
        private final int[] edges = new int[4 * MAX_BOXES];
        private final int[] ports = new int[6 * MAX_CONNECTORS];
        final Route[] routes = new Route[MAX_CONNECTORS];

        void copyFrom(Canvas other) {
            boxes = other.boxes;
            connectors = other.connectors;
            penalty = other.penalty;
            System.arraycopy(other.edges, 0, edges, 0, edges.length);
            System.arraycopy(other.ports, 0, ports, 0, ports.length);
            for (int i = 0; i < routes.length; i++) {
                routes[i] = other.routes[i];
            }
        }

        static boolean isSound(int x1, int y1, int x2, int y2) {
            return x1 >= LEAST_EDGE && x2 > x1 && x2 <= GREATEST_EDGE
                && y1 >= LEAST_EDGE && y2 > y1 && y2 <= GREATEST_EDGE;
        }

        boolean hasBox(int box) {
            return box >= 0 && box < boxes;
        }

        boolean hasConnector(int connector) {
            return connector >= 0 && connector < connectors;
        }

        int edge(int box, int what) {
            return edges[4 * box + what];
        }

        void putBox(int box, int x1, int y1, int x2, int y2) {
            edges[4 * box + X1] = x1;
            edges[4 * box + Y1] = y1;
            edges[4 * box + X2] = x2;
            edges[4 * box + Y2] = y2;
        }

        /** Whether the gap to a box, other than the one that is left out, would be too small. */
        boolean isTooNear(int leftOut, int x1, int y1, int x2, int y2) {
            for (int i = 0; i < boxes; i++) {
                boolean isApart = x1 >= edge(i, X2) + LEAST_GAP || edge(i, X1) >= x2 + LEAST_GAP
                    || y1 >= edge(i, Y2) + LEAST_GAP || edge(i, Y1) >= y2 + LEAST_GAP;
                if (i != leftOut && !isApart) {
                    return true;
                }
            }
            return false;
        }

        /** The lowest box that blocks a point with left <= x <= right and top <= y <= bottom. */
        int firstBoxOn(int left, int top, int right, int bottom) {
            for (int i = 0; i < boxes; i++) {
                int at = 4 * i;
                if (right >= edges[at + X1] && left <= edges[at + X2]
                    && bottom >= edges[at + Y1] && top <= edges[at + Y2]) {
                    return i;
                }
            }
            return NOT_THERE;
        }

        boolean hasPort(int box, int side, int offset) {
            if (side < 0 || side >= Direction.COUNT || offset < 0) {
                return false;
            }
            int length = Direction.isUpright(side) ? edge(box, X2) - edge(box, X1) : edge(box, Y2) - edge(box, Y1);
            return offset <= length;
        }

        void putPort(int connector, int end, int box, int side, int offset) {
            int at = 6 * connector + 3 * end;
            ports[at + PORT_BOX] = box;
            ports[at + PORT_SIDE] = side;
            ports[at + PORT_OFFSET] = offset;
        }

        /** The box, the side and the offset of the first port are 0 to 2, those of the last port 3 to 5. */
        int portDetail(int connector, int what) {
            return ports[6 * connector + what];
        }

        int portSide(int connector, int end) {
            return ports[6 * connector + 3 * end + PORT_SIDE];
        }

        int portX(int connector, int end) {
            int box = portDetail(connector, 3 * end + PORT_BOX);
            int side = portSide(connector, end);
            if (Direction.isUpright(side)) {
                return edge(box, X1) + portDetail(connector, 3 * end + PORT_OFFSET);
            }
            return edge(box, side == Direction.RIGHT ? X2 : X1);
        }

        int portY(int connector, int end) {
            int box = portDetail(connector, 3 * end + PORT_BOX);
            int side = portSide(connector, end);
            if (!Direction.isUpright(side)) {
                return edge(box, Y1) + portDetail(connector, 3 * end + PORT_OFFSET);
            }
            return edge(box, side == Direction.DOWN ? Y2 : Y1);
        }

        int connectorsAt(int box) {
            int found = 0;
            for (int i = 0; i < connectors; i++) {
                if (portDetail(i, PORT_BOX) == box || portDetail(i, 3 + PORT_BOX) == box) {
                    found++;
                }
            }
            return found;
        }

        void removeConnector(int connector) {
            connectors--;
            for (int i = connector; i < connectors; i++) {
                System.arraycopy(ports, 6 * (i + 1), ports, 6 * i, 6);
                routes[i] = routes[i + 1];
            }
            routes[connectors] = null;
        }

        /** The route of a connector; null if it has none, or there is no such connector. */
        Route routeOf(int connector) {
            return hasConnector(connector) ? routes[connector] : null;
        }

        boolean isTouched(int connector) {
            Route route = routes[connector];
            if (route == null) {
                return true;
            }
            int last = route.segments();
            if (route.xs[0] != portX(connector, FIRST) || route.ys[0] != portY(connector, FIRST)
                || route.xs[last] != portX(connector, LAST) || route.ys[last] != portY(connector, LAST)) {
                return true;
            }
            for (int i = 0; i < last; i++) {
                if (isBlocked(route, i)) {
                    return true;
                }
            }
            return false;
        }

        /** Whether a box blocks a point of a segment, other than an end of the route. */
        private boolean isBlocked(Route route, int segment) {
            int from = route.startOf(segment);
            int to = route.endOf(segment);
            boolean runsUp = route.runsUp(segment);
            boolean isFirst = segment == 0;
            boolean isLast = segment == route.segments() - 1;
            if (runsUp ? isFirst : isLast) {
                to--;
            }
            if (runsUp ? isLast : isFirst) {
                from++;
            }
            int line = route.lineOf(segment);
            int box = route.isLevel(segment) ? firstBoxOn(from, line, to, line) : firstBoxOn(line, from, line, to);
            return box != NOT_THERE;
        }

        int touchedConnectors() {
            int touched = 0;
            for (int i = 0; i < connectors; i++) {
                if (isTouched(i)) {
                    touched++;
                }
            }
            return touched;
        }

        int connectorsWithoutRoute() {
            int found = 0;
            for (int i = 0; i < connectors; i++) {
                if (routes[i] == null) {
                    found++;
                }
            }
            return found;
        }

        int costOfRoutes() {
            int sum = 0;
            for (int i = 0; i < connectors; i++) {
                Route route = routes[i];
                sum += route == null ? 0 : route.cost;
            }
            return sum;
        }

        int crossingsOf(int connector, int other) {
            Route one = routes[connector];
            Route two = routes[other];
            return one == null || two == null ? 0 : one.crossingsWith(two);
        }

        int crossingsOfPairs() {
            int sum = 0;
            for (int i = 0; i < connectors; i++) {
                for (int j = i + 1; j < connectors; j++) {
                    sum += crossingsOf(i, j);
                }
            }
            return sum;
        }
    }

    /** The corners and the cost of a route. It never changes, so states of the history can share it. */
    private static final class Route {
        final int cost;
        final int[] xs;
        final int[] ys;

        Route(int cost, int[] xs, int[] ys) {
            this.cost = cost;
            this.xs = xs;
            this.ys = ys;
        }

        int corners() {
            return xs.length;
        }

        int segments() {
            return xs.length - 1;
        }

        boolean isInner(int segment) {
            return segment >= 1 && segment < segments() - 1;
        }

        boolean isLevel(int segment) {
            return ys[segment] == ys[segment + 1];
        }

        /** The coordinate that all points of a segment have in common. */
        int lineOf(int segment) {
            return isLevel(segment) ? ys[segment] : xs[segment];
        }

        /** Whether a segment runs to lower coordinates. */
        boolean runsUp(int segment) {
            return isLevel(segment) ? xs[segment + 1] < xs[segment] : ys[segment + 1] < ys[segment];
        }

        /** The lowest coordinate along a segment. */
        int startOf(int segment) {
            return isLevel(segment)
                ? Math.min(xs[segment], xs[segment + 1]) : Math.min(ys[segment], ys[segment + 1]);
        }

        /** The greatest coordinate along a segment. */
        int endOf(int segment) {
            return isLevel(segment)
                ? Math.max(xs[segment], xs[segment + 1]) : Math.max(ys[segment], ys[segment + 1]);
        }

        int length() {
            int sum = 0;
            for (int i = 0; i < segments(); i++) {
                sum += endOf(i) - startOf(i);
            }
            return sum;
        }

        /** The pull of an inner segment. */
        int pullOf(int segment) {
            int[] across = isLevel(segment) ? ys : xs;
            return across[segment - 1] + across[segment + 2] - 2 * across[segment];
        }

        boolean hasCornerAt(int x, int y) {
            for (int i = 0; i < corners(); i++) {
                if (xs[i] == x && ys[i] == y) {
                    return true;
                }
            }
            return false;
        }

        boolean passes(int x, int y) {
            for (int i = 0; i < segments(); i++) {
                int along = isLevel(i) ? x : y;
                int across = isLevel(i) ? y : x;
                if (across == lineOf(i) && along >= startOf(i) && along <= endOf(i)) {
                    return true;
                }
            }
            return false;
        }

        int crossingsWith(Route other) {
            int found = 0;
            for (int i = 0; i < segments(); i++) {
                for (int j = 0; j < other.segments(); j++) {
                    if (isLevel(i) != other.isLevel(j) && isInside(other.lineOf(j), i)
                        && other.isInside(lineOf(i), j)) {
                        found++;
                    }
                }
            }
            return found;
        }

        private boolean isInside(int along, int segment) {
            return along > startOf(segment) && along < endOf(segment);
        }

        int sharedLengthWith(Route other) {
            int sum = 0;
            for (int i = 0; i < segments(); i++) {
                for (int j = 0; j < other.segments(); j++) {
                    if (isLevel(i) == other.isLevel(j) && lineOf(i) == other.lineOf(j)) {
                        int common = Math.min(endOf(i), other.endOf(j)) - Math.max(startOf(i), other.startOf(j));
                        sum += Math.max(common, 0);
                    }
                }
            }
            return sum;
        }

        long hashOnto(long before) {
            long hash = 31L * before + cost;
            hash = 31L * hash + corners();
            for (int i = 0; i < corners(); i++) {
                hash = 31L * hash + xs[i];
                hash = 31L * hash + ys[i];
            }
            return hash;
        }
    }

    /** The latest recorded states, in a ring. */
    private static final class History {
        private static final int CAPACITY = 4;

        int size;
        private int oldest;
        private final Canvas[] kept = new Canvas[CAPACITY];

        History() {
            for (int i = 0; i < CAPACITY; i++) {
                kept[i] = new Canvas();
            }
        }

        void keep(Canvas canvas) {
            if (size == CAPACITY) {
                oldest = (oldest + 1) % CAPACITY;
            } else {
                size++;
            }
            kept[(oldest + size - 1) % CAPACITY].copyFrom(canvas);
        }

        /** Removes the latest state, which must be there, and copies it to the canvas. */
        void restore(Canvas canvas) {
            size--;
            canvas.copyFrom(kept[(oldest + size) % CAPACITY]);
        }
    }

    /** The grid of a connector: its lines, and which nodes are joined. A node is row * LINES + column. */
    private static final class Grid {
        static final int LINES = 2 * MAX_BOXES + 2;
        static final int NODES = LINES * LINES;

        private final int[] xs = new int[LINES];
        private final int[] ys = new int[LINES];
        private int columns;
        private int rows;
        private final boolean[] opensRight = new boolean[NODES];
        private final boolean[] opensDown = new boolean[NODES];

        void clear() {
            columns = 0;
            rows = 0;
        }

        void addLinesAround(Canvas canvas) {
            for (int i = 0; i < canvas.boxes; i++) {
                columns = insert(xs, columns, canvas.edge(i, Canvas.X1) - 1);
                columns = insert(xs, columns, canvas.edge(i, Canvas.X2) + 1);
                rows = insert(ys, rows, canvas.edge(i, Canvas.Y1) - 1);
                rows = insert(ys, rows, canvas.edge(i, Canvas.Y2) + 1);
            }
        }

        void addLinesThrough(int x, int y) {
            columns = insert(xs, columns, x);
            rows = insert(ys, rows, y);
        }

        /** Puts a line among the ascending ones, unless it is there; returns how many there are then. */
        private static int insert(int[] lines, int size, int line) {
            int at = size;
            while (at > 0 && lines[at - 1] > line) {
                at--;
            }
            if (size >= lines.length || at > 0 && lines[at - 1] == line) {
                return size;
            }
            System.arraycopy(lines, at, lines, at + 1, size - at);
            lines[at] = line;
            return size + 1;
        }

        /** Joins the nodes; no step leads to or from a blocked point, so those need no mark of their own. */
        void joinNodes(Canvas canvas) {
            for (int row = 0; row < rows; row++) {
                for (int column = 0; column < columns; column++) {
                    int x = xs[column];
                    int y = ys[row];
                    int node = row * LINES + column;
                    opensRight[node] = column + 1 < columns
                        && canvas.firstBoxOn(x, y, xs[column + 1], y) == NOT_THERE;
                    opensDown[node] = row + 1 < rows && canvas.firstBoxOn(x, y, x, ys[row + 1]) == NOT_THERE;
                }
            }
        }

        int nodeAt(int x, int y) {
            return indexOf(ys, rows, y) * LINES + indexOf(xs, columns, x);
        }

        private static int indexOf(int[] lines, int size, int line) {
            int at = 0;
            while (at < size - 1 && lines[at] != line) {
                at++;
            }
            return at;
        }

        /** The node that is joined to a node in a direction, or NOT_THERE. */
        int neighbour(int node, int direction) {
            switch (direction) {
                case Direction.UP:
                    return node >= LINES && opensDown[node - LINES] ? node - LINES : NOT_THERE;
                case Direction.RIGHT:
                    return opensRight[node] ? node + 1 : NOT_THERE;
                case Direction.DOWN:
                    return opensDown[node] ? node + LINES : NOT_THERE;
                default:
                    // Nothing ever opens to the right from the last of LINES columns, so the row is not left.
                    return node >= 1 && opensRight[node - 1] ? node - 1 : NOT_THERE;
            }
        }

        int xOf(int node) {
            return xs[node % LINES];
        }

        int yOf(int node) {
            return ys[node / LINES];
        }

        int distance(int node, int other) {
            int across = xs[node % LINES] - xs[other % LINES];
            int down = ys[node / LINES] - ys[other / LINES];
            return Math.abs(across) + Math.abs(down);
        }
    }

    /**
     * States that wait, in a ring of lists, one for each cost. The costs that wait at the same time differ
     * by less than the ring's size: a step costs at most 97 for its length and 50 for a bend.
     */
    private static final class WaitingStates {
        private static final int RING = 256;

        private int reached;
        private final int[] heads = new int[RING];
        private final int[] next;
        private final int[] previous;

        WaitingStates(int states) {
            next = new int[states];
            previous = new int[states];
        }

        void clear() {
            reached = 0;
            Arrays.fill(heads, NOT_THERE);
        }

        void put(int state, int cost) {
            int list = cost & (RING - 1);
            int head = heads[list];
            next[state] = head;
            previous[state] = NOT_THERE;
            if (head >= 0) {
                previous[head] = state;
            }
            heads[list] = state;
        }

        void remove(int state, int cost) {
            int behind = next[state];
            int before = previous[state];
            if (behind >= 0) {
                previous[behind] = before;
            }
            if (before >= 0) {
                next[before] = behind;
            } else {
                heads[cost & (RING - 1)] = behind;
            }
        }

        /** Removes and returns a state with the least cost, or NOT_THERE. */
        int takeCheapest() {
            for (int i = 0; i < RING; i++) {
                int cost = reached + i;
                int state = heads[cost & (RING - 1)];
                if (state >= 0) {
                    reached = cost;
                    remove(state, cost);
                    return state;
                }
            }
            return NOT_THERE;
        }
    }

    /**
     * Finds best ways. A state is a node with the direction in which the way came to it; the search goes
     * back from the last port and tells what the rest of a way costs from each state. The walk then takes
     * the first direction that keeps to the least rest, which gives the lexicographically first way.
     */
    private static final class WayFinder {
        private static final int STATES = Grid.NODES * Direction.COUNT;
        private static final int MAX_CORNERS = Grid.NODES + 2;
        private static final int FAR = 1000000;

        private final Grid grid = new Grid();
        private final WaitingStates waiting = new WaitingStates(STATES);
        private final int[] rests = new int[STATES];
        private int penalty;
        private int start;
        private int startSide;
        private int goal;
        private int goalSide;
        private final int[] cornerXs = new int[MAX_CORNERS];
        private final int[] cornerYs = new int[MAX_CORNERS];
        private int corners;

        /** Finds the best way of a connector; returns its cost, or NONE. */
        int findCost(Canvas canvas, int connector) {
            prepare(canvas, connector);
            int startState = stateOf(start, startSide);
            for (int i = 0; i < Direction.COUNT; i++) {
                offer(stateOf(goal, i), restAtGoal(i));
            }
            for (int i = 0; i < STATES; i++) {
                int state = waiting.takeCheapest();
                if (state == NOT_THERE || state == startState) {
                    break;
                }
                goBackFrom(state);
            }
            return rests[startState] >= FAR ? NONE : 2 + rests[startState];
        }

        private void prepare(Canvas canvas, int connector) {
            penalty = canvas.penalty;
            startSide = canvas.portSide(connector, Canvas.FIRST);
            goalSide = canvas.portSide(connector, Canvas.LAST);
            int startX = canvas.portX(connector, Canvas.FIRST) + Direction.stepX(startSide);
            int startY = canvas.portY(connector, Canvas.FIRST) + Direction.stepY(startSide);
            int goalX = canvas.portX(connector, Canvas.LAST) + Direction.stepX(goalSide);
            int goalY = canvas.portY(connector, Canvas.LAST) + Direction.stepY(goalSide);
            grid.clear();
            grid.addLinesAround(canvas);
            grid.addLinesThrough(startX, startY);
            grid.addLinesThrough(goalX, goalY);
            grid.joinNodes(canvas);
            start = grid.nodeAt(startX, startY);
            goal = grid.nodeAt(goalX, goalY);
            Arrays.fill(rests, FAR);
            waiting.clear();
        }

        private static int stateOf(int node, int direction) {
            return node * Direction.COUNT + direction;
        }

        /** What it costs to end at the goal, having come in a direction (or without steps). */
        private int restAtGoal(int direction) {
            if (direction == goalSide) {
                return FAR;
            }
            return direction == Direction.opposite(goalSide) ? 0 : penalty;
        }

        private void offer(int state, int rest) {
            if (rest >= rests[state]) {
                return;
            }
            if (rests[state] < FAR) {
                waiting.remove(state, rests[state]);
            }
            rests[state] = rest;
            waiting.put(state, rest);
        }

        /** Offers what is known of a state to all states from which one step leads to it. */
        private void goBackFrom(int state) {
            int node = state / Direction.COUNT;
            int direction = state % Direction.COUNT;
            int back = Direction.opposite(direction);
            int before = grid.neighbour(node, back);
            if (before == NOT_THERE) {
                return;
            }
            int rest = rests[state] + grid.distance(before, node);
            for (int i = 0; i < Direction.COUNT; i++) {
                if (i != back) {
                    offer(stateOf(before, i), i == direction ? rest : rest + penalty);
                }
            }
        }

        /** Goes the way that was just found, which must be there, and notes its corners. */
        void walk() {
            corners = 0;
            addCorner(grid.xOf(start) - Direction.stepX(startSide), grid.yOf(start) - Direction.stepY(startSide));
            int node = start;
            int direction = startSide;
            for (int i = 0; i < STATES; i++) {
                int turn = nextDirection(node, direction);
                if (turn == NOT_THERE) {
                    break;
                }
                if (turn != direction) {
                    addCorner(grid.xOf(node), grid.yOf(node));
                }
                node = grid.neighbour(node, turn);
                direction = turn;
            }
            if (direction != Direction.opposite(goalSide)) {
                addCorner(grid.xOf(goal), grid.yOf(goal));
            }
            addCorner(grid.xOf(goal) - Direction.stepX(goalSide), grid.yOf(goal) - Direction.stepY(goalSide));
        }

        /** The direction of the best way's next step; NOT_THERE where it ends. */
        private int nextDirection(int node, int direction) {
            int rest = rests[stateOf(node, direction)];
            if (node == goal && rest == restAtGoal(direction)) {
                return NOT_THERE;
            }
            for (int i = 0; i < Direction.COUNT; i++) {
                int to = i == Direction.opposite(direction) ? NOT_THERE : grid.neighbour(node, i);
                if (to == NOT_THERE) {
                    continue;
                }
                int bend = i == direction ? 0 : penalty;
                if (grid.distance(node, to) + bend + rests[stateOf(to, i)] == rest) {
                    return i;
                }
            }
            return NOT_THERE;
        }

        private void addCorner(int x, int y) {
            if (corners < MAX_CORNERS) {
                cornerXs[corners] = x;
                cornerYs[corners] = y;
                corners++;
            }
        }

        /** Whether the corners of the latest walk are those of a route. */
        boolean walkedAlong(Route route) {
            if (route.corners() != corners) {
                return false;
            }
            for (int i = 0; i < corners; i++) {
                if (route.xs[i] != cornerXs[i] || route.ys[i] != cornerYs[i]) {
                    return false;
                }
            }
            return true;
        }

        Route makeRoute(int cost) {
            return new Route(cost, Arrays.copyOf(cornerXs, corners), Arrays.copyOf(cornerYs, corners));
        }
    }

    /** The inner segments on the line of one of them, in the order of connectors and numbers. */
    private static final class Bundle {
        // A route meets a line at no more than LINES nodes, each of them in one segment.
        private static final int CAPACITY = MAX_CONNECTORS * Grid.LINES;

        private int size;
        private int own;
        private final int[] starts = new int[CAPACITY];
        private final int[] ends = new int[CAPACITY];
        private final int[] pulls = new int[CAPACITY];
        private final int[] lanes = new int[CAPACITY];
        private final boolean[] reached = new boolean[CAPACITY];

        /** Gathers the inner segments on the line of a given one. */
        void gather(Canvas canvas, int connector, int segment) {
            size = 0;
            own = 0;
            Route asked = canvas.routeOf(connector);
            if (asked == null) {
                return;
            }
            boolean isLevel = asked.isLevel(segment);
            int line = asked.lineOf(segment);
            for (int i = 0; i < canvas.connectors; i++) {
                Route route = canvas.routes[i];
                if (route == null) {
                    continue;
                }
                for (int j = 1; j < route.segments() - 1 && size < CAPACITY; j++) {
                    if (route.isLevel(j) == isLevel && route.lineOf(j) == line) {
                        own = i == connector && j == segment ? size : own;
                        add(route, j);
                    }
                }
            }
        }

        /** Adds a segment; there must be room for it. */
        private void add(Route route, int segment) {
            starts[size] = route.startOf(segment);
            ends[size] = route.endOf(segment);
            pulls[size] = route.pullOf(segment);
            lanes[size] = NOT_THERE;
            reached[size] = false;
            size++;
        }

        private boolean collide(int one, int other) {
            return Math.min(ends[one], ends[other]) > Math.max(starts[one], starts[other]);
        }

        void assignLanes() {
            for (int i = 0; i < size; i++) {
                int next = nextWithoutLane();
                int lane = 0;
                for (int j = 0; j < size; j++) {
                    if (lanes[j] >= lane && collide(next, j)) {
                        lane = lanes[j] + 1;
                    }
                }
                lanes[next] = lane;
            }
        }

        /** The first one with the least pull among those without a lane. */
        private int nextWithoutLane() {
            int best = 0;
            for (int i = 1; i < size; i++) {
                if (lanes[i] == NOT_THERE && (lanes[best] != NOT_THERE || pulls[i] < pulls[best])) {
                    best = i;
                }
            }
            return best;
        }

        int ownLane() {
            return lanes[own];
        }

        /** The lanes of the bundle of the given segment: the greatest lane that collisions reach, plus 1. */
        int lanesOfOwn() {
            reached[own] = true;
            boolean grows = true;
            for (int round = 0; round < size && grows; round++) {
                grows = false;
                for (int i = 0; i < size; i++) {
                    if (!reached[i] && touchesReached(i)) {
                        reached[i] = true;
                        grows = true;
                    }
                }
            }
            int greatest = 0;
            for (int i = 0; i < size; i++) {
                if (reached[i]) {
                    greatest = Math.max(greatest, lanes[i]);
                }
            }
            return greatest + 1;
        }

        private boolean touchesReached(int one) {
            for (int i = 0; i < size; i++) {
                if (reached[i] && collide(one, i)) {
                    return true;
                }
            }
            return false;
        }
    }

    /** The text of commands, and a reader that goes through it command by command. */
    private static final class CommandText {
        static final int CAPACITY = 120;
        static final int BOX = 0, LINK = 1, ROUTE = 2, DROP = 3, PENALTY = 4, ALL = 5;
        private static final int[] NUMBERS_OF_WORD = {4, 6, 1, 1, 1, 0};
        private static final int MAX_DIGITS = 3;

        int length;
        private final int[] bytes = new int[CAPACITY];
        // What the reader has read, and where it stands.
        int word;
        final int[] numbers = new int[6];
        private int cursor;
        private boolean hasEnded;
        private int fault;

        void append(int code) {
            if (length < CAPACITY) {
                bytes[length] = code;
                length++;
            }
        }

        int findFault() {
            rewind();
            boolean isSound = true;
            for (int i = 0; i < CAPACITY && isSound; i++) {
                isSound = readCommand();
            }
            return fault;
        }

        void rewind() {
            cursor = 0;
            hasEnded = false;
            fault = NONE;
        }

        /** Reads the next command to word and numbers; false if there is none, or it has a fault. */
        boolean readCommand() {
            if (hasEnded) {
                return false;
            }
            word = readWord();
            if (word == NOT_THERE) {
                return false;
            }
            for (int i = 0; i < NUMBERS_OF_WORD[word]; i++) {
                numbers[i] = readNumber();
                if (numbers[i] == NOT_THERE) {
                    return false;
                }
            }
            return readSeparator();
        }

        private void skipBlanks() {
            while (cursor < length && bytes[cursor] == ' ') {
                cursor++;
            }
        }

        /** Reads a word; where there is none of those that are known, its place is the fault. */
        private int readWord() {
            skipBlanks();
            int from = cursor;
            while (cursor < length && bytes[cursor] >= 'a' && bytes[cursor] <= 'z') {
                cursor++;
            }
            int known = wordFrom(from);
            if (known == NOT_THERE) {
                fault = from;
            }
            return known;
        }

        private int wordFrom(int from) {
            if (spells("box", from)) {
                return BOX;
            }
            if (spells("link", from)) {
                return LINK;
            }
            if (spells("route", from)) {
                return ROUTE;
            }
            if (spells("drop", from)) {
                return DROP;
            }
            if (spells("penalty", from)) {
                return PENALTY;
            }
            return spells("all", from) ? ALL : NOT_THERE;
        }

        /** Whether the bytes from an index up to the cursor are those of a word. */
        private boolean spells(String known, int from) {
            if (cursor - from != known.length()) {
                return false;
            }
            for (int i = 0; i < known.length(); i++) {
                if (bytes[from + i] != known.charAt(i)) {
                    return false;
                }
            }
            return true;
        }

        /** Reads a number; where there is none, or one with too many digits, its place is the fault. */
        private int readNumber() {
            skipBlanks();
            int from = cursor;
            int value = 0;
            while (cursor < length && bytes[cursor] >= '0' && bytes[cursor] <= '9') {
                value = 10 * value + (bytes[cursor] - '0');
                cursor++;
            }
            if (cursor == from || cursor - from > MAX_DIGITS) {
                fault = from;
                return NOT_THERE;
            }
            return value;
        }

        /** Reads the semicolon behind a command, or finds the end of the text. */
        private boolean readSeparator() {
            skipBlanks();
            if (cursor >= length) {
                hasEnded = true;
                return true;
            }
            if (bytes[cursor] != ';') {
                fault = cursor;
                return false;
            }
            cursor++;
            return true;
        }
    }
}
