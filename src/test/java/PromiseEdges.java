/** Each promise: the last arguments that it takes, the first that it refuses, and what a refusal leaves. */
public final class PromiseEdges {
    private static final int NONE = Checks.NONE, BAD_INDEX = Checks.BAD_INDEX, BAD_VALUE = Checks.BAD_VALUE;
    private static final int BAD_STATE = Checks.BAD_STATE, FULL = Checks.FULL;
    private static final int LEAST = Checks.LEAST, GREATEST = Checks.GREATEST;
    // The busy canvas of Checks has the boxes 0 to 2 and the connectors 0 to 3, of which 2 has no route.
    private static final int[] NO_BOX = {LEAST, -1, 3, 8, GREATEST};
    private static final int[] NO_CONNECTOR = {LEAST, -1, 4, 10, GREATEST};

    public static void main(String[] args) {
        newObject();
        addBox();
        moveBox();
        moveBoxFar();
        box();
        blocker();
        link();
        drop();
        dropWithRoutes();
        setPenalty();
        count();
        connector();
        route();
        routeAll();
        routeAllOfOneThatGoesOn();
        reroute();
        refresh();
        best();
        measure();
        corner();
        isOn();
        crossings();
        shared();
        lane();
        write();
        written();
        type();
        clearText();
        textFault();
        run();
        runOneByOne();
        undo();
        digest();
        digestOfEach();
        Checks.finish();
    }

    private static void newObject() {
        Checks.sentence("Promise 1: an empty canvas, with an empty text; nothing is written");
        Checks.due("NONE", ConnectorRouter.NONE, -1000);
        Checks.due("BAD_INDEX", ConnectorRouter.BAD_INDEX, -1001);
        Checks.due("BAD_VALUE", ConnectorRouter.BAD_VALUE, -1002);
        Checks.due("BAD_STATE", ConnectorRouter.BAD_STATE, -1003);
        Checks.due("FULL", ConnectorRouter.FULL, -1004);
        int[] counts = {0, 0, 10, 0, 0, 0};
        for (int i = 0; i < counts.length; i++) {
            int what = i;
            Checks.onlyAsks("count(" + i + ")", ConnectorRouter::new, x -> x.count(what), counts[i]);
        }
        Checks.refused("box(0, 0)", ConnectorRouter::new, x -> x.box(0, 0), BAD_INDEX);
        Checks.refused("moveBox(0, 0, 0)", ConnectorRouter::new, x -> x.moveBox(0, 0, 0), BAD_INDEX);
        Checks.refused("link", ConnectorRouter::new, x -> x.link(0, 0, 0, 0, 1, 0), BAD_INDEX);
        Checks.refused("drop(0)", ConnectorRouter::new, x -> x.drop(0), BAD_INDEX);
        Checks.refused("connector(0, 0)", ConnectorRouter::new, x -> x.connector(0, 0), BAD_INDEX);
        Checks.refused("route(0)", ConnectorRouter::new, x -> x.route(0), BAD_INDEX);
        Checks.refused("best(0)", ConnectorRouter::new, x -> x.best(0), BAD_INDEX);
        Checks.refused("measure(0, 0)", ConnectorRouter::new, x -> x.measure(0, 0), BAD_INDEX);
        Checks.refused("corner(0, 0, 0)", ConnectorRouter::new, x -> x.corner(0, 0, 0), BAD_INDEX);
        Checks.refused("isOn(0, 0, 0)", ConnectorRouter::new, x -> x.isOn(0, 0, 0), BAD_INDEX);
        Checks.refused("crossings(0, 0)", ConnectorRouter::new, x -> x.crossings(0, 0), BAD_INDEX);
        Checks.refused("shared(0, 0)", ConnectorRouter::new, x -> x.shared(0, 0), BAD_INDEX);
        Checks.refused("lane(0, 1, 0)", ConnectorRouter::new, x -> x.lane(0, 1, 0), BAD_INDEX);
        Checks.refused("write(0)", ConnectorRouter::new, x -> x.write(0), BAD_INDEX);
        Checks.refused("written(0)", ConnectorRouter::new, x -> x.written(0), BAD_INDEX);
        Checks.refused("run()", ConnectorRouter::new, x -> x.run(), BAD_STATE);
        Checks.refused("undo()", ConnectorRouter::new, x -> x.undo(), BAD_STATE);
        Checks.onlyAsks("textFault()", ConnectorRouter::new, x -> x.textFault(), 0);
        Checks.onlyAsks("clearText()", ConnectorRouter::new, x -> x.clearText(), 0);
        Checks.onlyAsks("blocker(50, 50)", ConnectorRouter::new, x -> x.blocker(50, 50), NONE);
        Checks.onlyAsks("digest()", ConnectorRouter::new, x -> x.digest(), 19L * 31 * 31 * 31 + 310);
    }

    private static void addBox() {
        Checks.sentence("Promise 2: the number of the box; BAD_VALUE; BAD_STATE; FULL");
        int[] low = {LEAST, 1, 97, GREATEST};
        int[] high = {LEAST, 2, 98, GREATEST};
        Checks.refusedFor("addBox, x1", ConnectorRouter::new, (x, v) -> x.addBox(v, 2, 97, 97), BAD_VALUE, low);
        Checks.refusedFor("addBox, y1", ConnectorRouter::new, (x, v) -> x.addBox(2, v, 97, 97), BAD_VALUE, low);
        Checks.refusedFor("addBox, x2", ConnectorRouter::new, (x, v) -> x.addBox(2, 2, v, 97), BAD_VALUE, high);
        Checks.refusedFor("addBox, y2", ConnectorRouter::new, (x, v) -> x.addBox(2, 2, 97, v), BAD_VALUE, high);
        for (int i = 0; i < 2; i++) {
            Checks.due("x1 at its least and greatest", new ConnectorRouter().addBox(i == 0 ? 2 : 96, 2, 97, 97), 0);
            Checks.due("y1 at its least and greatest", new ConnectorRouter().addBox(2, i == 0 ? 2 : 96, 97, 97), 0);
            Checks.due("x2 at its least and greatest", new ConnectorRouter().addBox(2, 2, i == 0 ? 3 : 97, 97), 0);
            Checks.due("y2 at its least and greatest", new ConnectorRouter().addBox(2, 2, 97, i == 0 ? 3 : 97), 0);
        }
        Checks.refused("addBox too near", Checks::busy, x -> x.addBox(21, 10, 30, 20), BAD_STATE);
        Checks.refused("addBox when full", Checks::crowded, x -> x.addBox(2, 60, 97, 97), FULL);
        // A box may be added where a route lies; the route stays.
        ConnectorRouter x = Checks.busy();
        Checks.due("addBox on a route", x.addBox(28, 10, 32, 20), 3);
        Checks.dueRoute(x, 0, "M20,15H40");
        Checks.due("connector(0, 11)", x.connector(0, 11), 1);
        int[] edges = {28, 10, 32, 20, 0};
        for (int i = 0; i < edges.length; i++) {
            Checks.due("box(3, " + i + ")", x.box(3, i), edges[i]);
        }
    }

    private static void moveBox() {
        Checks.sentence("Promise 3: how many routes are touched then; BAD_INDEX; BAD_VALUE; BAD_STATE");
        Checks.refusedFor("moveBox, box", Checks::busy, (x, v) -> x.moveBox(v, 0, 0), BAD_INDEX, NO_BOX);
        int[] outOfRange = {LEAST, -100, 100, GREATEST};
        Checks.refusedFor("moveBox, dx", Checks::busy, (x, v) -> x.moveBox(0, v, 0), BAD_VALUE, outOfRange);
        Checks.refusedFor("moveBox, dy", Checks::busy, (x, v) -> x.moveBox(0, 0, v), BAD_VALUE, outOfRange);
        Checks.refusedFor("moveBox, dx off the canvas", Checks::busy,
            (x, v) -> x.moveBox(0, v, 70), BAD_VALUE, -99, -9, 78, 99);
        Checks.refusedFor("moveBox, dy off the canvas", Checks::busy,
            (x, v) -> x.moveBox(1, 0, v), BAD_VALUE, -99, -9, 78, 99);
        Checks.refused("moveBox too near", Checks::busy, x -> x.moveBox(0, 19, 0), BAD_STATE);
        Checks.due("moveBox near enough", Checks.busy().moveBox(0, 18, 0), 3);
        Checks.refused("moveBox of the last one too near", Checks::busy, x -> x.moveBox(2, 0, -19), BAD_STATE);
        Checks.due("moveBox of the last one near enough", Checks.busy().moveBox(2, 0, -18), 2);
        ConnectorRouter x = Checks.busy();
        Checks.due("moveBox that touches none", x.moveBox(0, 0, 0), 0);
        Checks.due("moveBox of the ports of one", x.moveBox(1, 5, 5), 1);
        Checks.due("connector(0, 8)", x.connector(0, 8), 45);
        Checks.due("connector(0, 9)", x.connector(0, 9), 20);
        Checks.dueRoute(x, 0, "M20,15H40");
        Checks.due("moveBox of the ports of all", x.moveBox(0, 0, 5), 3);
        Checks.due("count(3) counts the one without a route", x.count(3), 4);
        // The first, the middle and the last one of three without a route.
        for (int i = 0; i < 3; i++) {
            ConnectorRouter y = Checks.crowded();
            while (y.drop(3) >= 3) {
                Checks.due("count(4)", y.count(4), 0);
            }
            y.route((i + 1) % 3);
            y.route((i + 2) % 3);
            Checks.due("moveBox without a route of " + i, y.moveBox(0, 0, 1), 2);
            Checks.due("count(3)", y.count(3), 3);
            Checks.due("moveBox back without a route of " + i, y.moveBox(0, 0, -1), 0);
        }
    }

    private static void moveBoxFar() {
        Checks.sentence("Promise 3: by how much to the right, -99 to 99");
        // The greatest moves that a canvas has room for are from 2 to 96, so 95 and beyond is off it.
        ConnectorRouter x = Checks.withBox(2, 2, 3, 3);
        Checks.due("moveBox by 94", x.moveBox(0, 94, 94), 0);
        Checks.due("box(0, 2)", x.box(0, 2), 97);
        Checks.due("moveBox by -94", x.moveBox(0, -94, -94), 0);
        Checks.due("box(0, 0)", x.box(0, 0), 2);
        Checks.Making small = () -> Checks.withBox(2, 2, 3, 3);
        Checks.refusedFor("moveBox, dx", small, (y, v) -> y.moveBox(0, v, 0), BAD_VALUE, -99, -1, 95, 99);
        Checks.refusedFor("moveBox, dy", small, (y, v) -> y.moveBox(0, 0, v), BAD_VALUE, -99, -1, 95, 99);
        // Sums that would wrap around are refused as well.
        Checks.refused("moveBox by the greatest", small, y -> y.moveBox(0, GREATEST, GREATEST), BAD_VALUE);
        Checks.refused("moveBox by the least", small, y -> y.moveBox(0, LEAST, LEAST), BAD_VALUE);
    }

    private static void box() {
        Checks.sentence("Promise 4: the property; BAD_INDEX; BAD_VALUE");
        int[] properties = {10, 40, 20, 60, 3};
        for (int i = 0; i < properties.length; i++) {
            int what = i;
            Checks.onlyAsks("box(2, " + i + ")", Checks::busy, x -> x.box(2, what), properties[i]);
        }
        Checks.refusedFor("box, box", Checks::busy, (x, v) -> x.box(v, 0), BAD_INDEX, NO_BOX);
        Checks.refusedFor("box, what", Checks::busy, (x, v) -> x.box(0, v), BAD_VALUE, LEAST, -1, 5, GREATEST);
        Checks.onlyAsks("box(7, 4)", Checks::crowded, x -> x.box(7, 4), 0);
        Checks.onlyAsks("box(0, 4)", Checks::crowded, x -> x.box(0, 4), 10);
        Checks.refused("box(8, 4)", Checks::crowded, x -> x.box(8, 4), BAD_INDEX);
        ConnectorRouter x = Checks.withBox(10, 10, 20, 20);
        x.link(0, 0, 0, 0, 1, 0);
        Checks.due("box(0, 4) with both ports at it", x.box(0, 4), 1);
        x.drop(0);
        Checks.due("box(0, 4) with none", x.box(0, 4), 0);
    }

    private static void blocker() {
        Checks.sentence("Promise 5: the lowest such box; NONE if there is none; BAD_VALUE");
        for (int i = 0; i < 8; i++) {
            int box = i;
            int px = 5 + 22 * (i % 4);
            int py = 10 + 30 * (i / 4);
            Checks.onlyAsks("blocker of box " + i, Checks::crowded, x -> x.blocker(px, py), box);
            Checks.onlyAsks("blocker of box " + i + ", last", Checks::crowded, x -> x.blocker(px + 10, py + 10), box);
            Checks.onlyAsks("blocker beside box " + i, Checks::crowded, x -> x.blocker(px - 1, py), NONE);
            Checks.onlyAsks("blocker behind box " + i, Checks::crowded, x -> x.blocker(px + 10, py + 11), NONE);
        }
        int[] outside = {LEAST, -1, 100, GREATEST};
        Checks.refusedFor("blocker, x", Checks::crowded, (x, v) -> x.blocker(v, 10), BAD_VALUE, outside);
        Checks.refusedFor("blocker, y", Checks::crowded, (x, v) -> x.blocker(5, v), BAD_VALUE, outside);
    }

    private static void link() {
        Checks.sentence("Promise 6: the number of the connector; BAD_INDEX; BAD_VALUE; BAD_STATE; FULL");
        Checks.refusedFor("link, box", Checks::busy, (x, v) -> x.link(v, 0, 0, 1, 0, 0), BAD_INDEX, NO_BOX);
        Checks.refusedFor("link, toBox", Checks::busy, (x, v) -> x.link(0, 0, 0, v, 0, 0), BAD_INDEX, NO_BOX);
        int[] noSide = {LEAST, -1, 4, GREATEST};
        Checks.refusedFor("link, side", Checks::busy, (x, v) -> x.link(0, v, 0, 1, 0, 0), BAD_VALUE, noSide);
        Checks.refusedFor("link, toSide", Checks::busy, (x, v) -> x.link(0, 0, 0, 1, v, 0), BAD_VALUE, noSide);
        int[] lengths = {10, 20, 10, 20};
        for (int side = 0; side < 4; side++) {
            int s = side;
            int[] bad = {LEAST, -1, lengths[s] + 1, GREATEST};
            Checks.refusedFor("link, offset", Checks::busy, (x, v) -> x.link(2, s, v, 1, 0, 0), BAD_VALUE, bad);
            Checks.refusedFor("link, toOffset", Checks::busy, (x, v) -> x.link(1, 0, 0, 2, s, v), BAD_VALUE, bad);
            Checks.due("link, offset 0", Checks.busy().link(2, s, 0, 1, 0, 0), 4);
            Checks.due("link, the last offset", Checks.busy().link(2, s, lengths[s], 1, 0, 0), 4);
            Checks.due("link, toOffset 0", Checks.busy().link(1, 0, 0, 2, s, 0), 4);
            Checks.due("link, the last toOffset", Checks.busy().link(1, 0, 0, 2, s, lengths[s]), 4);
            Checks.refused("link of one port", Checks::busy, x -> x.link(1, s, 3, 1, s, 3), BAD_STATE);
        }
        Checks.refused("link when full", Checks::crowded, x -> x.link(7, 0, 0, 6, 0, 0), FULL);
        Checks.due("link of ports that are linked already", Checks.busy().link(0, 1, 5, 1, 3, 5), 4);
        ConnectorRouter x = Checks.busy();
        x.link(2, 3, 20, 0, 0, 10);
        int[] properties = {2, 3, 20, 0, 0, 10, 10, 60, 20, 10, 0, 1};
        for (int i = 0; i < properties.length; i++) {
            Checks.due("connector(4, " + i + ")", x.connector(4, i), properties[i]);
        }
    }

    private static void drop() {
        Checks.sentence("Promise 7: the number of connectors that are left; BAD_INDEX");
        Checks.refusedFor("drop", Checks::busy, (x, v) -> x.drop(v), BAD_INDEX, NO_CONNECTOR);
        Checks.refused("drop(10)", Checks::crowded, x -> x.drop(10), BAD_INDEX);
        ConnectorRouter x = Checks.crowded();
        Checks.due("drop of the last of ten", x.drop(9), 9);
        Checks.due("drop of what is gone", x.drop(9), BAD_INDEX);
        Checks.due("drop of the first", x.drop(0), 8);
        Checks.due("connector(0, 2)", x.connector(0, 2), 1);
        Checks.due("connector(7, 2)", x.connector(7, 2), 8);
        Checks.due("connector(8, 2)", x.connector(8, 2), BAD_INDEX);
        for (int left = 7; left >= 0; left--) {
            Checks.due("drop(0)", x.drop(0), left);
        }
        Checks.due("drop(0) of none", x.drop(0), BAD_INDEX);
        Checks.due("count(1)", x.count(1), 0);
        // The first of ten: all nine behind it move up, with all that they have.
        ConnectorRouter y = Checks.withBox(10, 10, 30, 30);
        y.addBox(50, 50, 70, 70);
        for (int i = 0; i < 10; i++) {
            y.link(i % 2, i % 4, i, (i + 1) % 2, (i + 1) % 4, 20 - i);
        }
        Checks.due("drop of the first of ten", y.drop(0), 9);
        for (int i = 1; i < 10; i++) {
            int[] ports = {i % 2, i % 4, i, (i + 1) % 2, (i + 1) % 4, 20 - i};
            for (int what = 0; what < 6; what++) {
                Checks.due("connector(" + (i - 1) + ", " + what + ")", y.connector(i - 1, what), ports[what]);
            }
        }
        Checks.due("connector(9, 0)", y.connector(9, 0), BAD_INDEX);
    }

    private static void dropWithRoutes() {
        Checks.sentence("Promise 7: Those behind it get numbers that are lower by 1");
        ConnectorRouter x = Checks.busy();
        Checks.due("drop(1)", x.drop(1), 3);
        Checks.dueRoute(x, 0, "M20,15H40");
        Checks.due("connector(1, 10)", x.connector(1, 10), 0);
        Checks.due("connector(1, 0)", x.connector(1, 0), 1);
        Checks.dueRoute(x, 2, "M20,15H21V50H20");
        Checks.due("measure(2, 0)", x.measure(2, 0), 57);
        // A new connector does not find the route of one that had its number.
        Checks.due("drop(2)", x.drop(2), 2);
        Checks.due("link", x.link(0, 1, 5, 2, 1, 10), 2);
        Checks.due("connector(2, 10)", x.connector(2, 10), 0);
        Checks.due("undo() of link", x.undo(), 3);
        Checks.due("undo() of drop", x.undo(), 2);
        Checks.due("connector(2, 10)", x.connector(2, 10), 1);
    }

    private static void setPenalty() {
        Checks.sentence("Promise 8: the previous penalty; BAD_VALUE");
        ConnectorRouter x = new ConnectorRouter();
        int previous = 10;
        for (int penalty : new int[] {0, 50, 0, 1, 49, 49, 50}) {
            Checks.due("setPenalty(" + penalty + ")", x.setPenalty(penalty), previous);
            Checks.due("count(2)", x.count(2), penalty);
            previous = penalty;
        }
        Checks.refusedFor("setPenalty", Checks::busy, (y, v) -> y.setPenalty(v), BAD_VALUE,
            LEAST, -1000, -1, 51, 1000, GREATEST);
    }

    private static void count() {
        Checks.sentence("Promise 9: the number; BAD_VALUE if what is out of range");
        int[] counts = {3, 4, 12, 1, 20 + 20 + 57, 0};
        for (int i = 0; i < counts.length; i++) {
            int what = i;
            Checks.onlyAsks("count(" + i + ")", Checks::busy, x -> x.count(what), counts[i]);
        }
        Checks.refusedFor("count", Checks::busy, (x, v) -> x.count(v), BAD_VALUE, LEAST, -1, 6, GREATEST);
        ConnectorRouter x = Checks.crowded();
        Checks.due("count(3) without routes", x.count(3), 10);
        Checks.due("count(4) without routes", x.count(4), 0);
        x.routeAll();
        Checks.due("count(3) with all routes", x.count(3), 0);
        Checks.due("count(4) with all routes", x.count(4), 120);
        Checks.due("count(5) with all routes", x.count(5), 0);
    }

    private static void connector() {
        Checks.sentence("Promise 10: the property; BAD_INDEX; BAD_VALUE");
        int[] first = {0, 1, 5, 1, 3, 5, 20, 15, 40, 15, 1, 0};
        int[] third = {1, 2, 5, 2, 1, 10, 45, 20, 20, 50, 0, 1};
        for (int i = 0; i < 12; i++) {
            int what = i;
            Checks.onlyAsks("connector(0, " + i + ")", Checks::busy, x -> x.connector(0, what), first[i]);
            Checks.onlyAsks("connector(2, " + i + ")", Checks::busy, x -> x.connector(2, what), third[i]);
        }
        Checks.refusedFor("connector", Checks::busy, (x, v) -> x.connector(v, 0), BAD_INDEX, NO_CONNECTOR);
        Checks.refusedFor("connector, what", Checks::busy,
            (x, v) -> x.connector(0, v), BAD_VALUE, LEAST, -1, 12, GREATEST);
        Checks.onlyAsks("connector(9, 2)", Checks::crowded, x -> x.connector(9, 2), 9);
        Checks.refused("connector(10, 2)", Checks::crowded, x -> x.connector(10, 2), BAD_INDEX);
    }

    private static void route() {
        Checks.sentence("Promise 11: the cost; BAD_INDEX if there is no such connector");
        Checks.refusedFor("route", Checks::busy, (x, v) -> x.route(v), BAD_INDEX, NO_CONNECTOR);
        Checks.refused("route(10)", Checks::crowded, x -> x.route(10), BAD_INDEX);
        Checks.due("route(9)", Checks.crowded().route(9), 12);
        Checks.due("route(0)", Checks.crowded().route(0), 12);
        // The cost is that of the present penalty, also if the corners stay.
        ConnectorRouter x = Checks.busy();
        Checks.due("measure(3, 0) as it was routed", x.measure(3, 0), 57);
        Checks.due("route(3) now", x.route(3), 61);
        Checks.due("measure(3, 0) then", x.measure(3, 0), 61);
        Checks.due("undo()", x.undo(), 3);
        Checks.due("measure(3, 0) as before", x.measure(3, 0), 57);
        Checks.due("the others stay", x.connector(2, 10), 0);
    }

    private static void routeAll() {
        Checks.sentence("Promise 12: a route whose corners differ from those before, or their first route");
        Checks.due("routeAll() of none", new ConnectorRouter().routeAll(), 0);
        ConnectorRouter x = Checks.crowded();
        Checks.due("routeAll() of ten", x.routeAll(), 10);
        Checks.due("routeAll() of ten again", x.routeAll(), 0);
        Checks.due("undo()", x.undo(), 3);
        Checks.due("undo()", x.undo(), 2);
        Checks.due("routeAll() of ten without routes", x.routeAll(), 10);
        ConnectorRouter y = Checks.busy();
        Checks.due("routeAll() with one first route", y.routeAll(), 1);
        Checks.due("measure(3, 0) has the new penalty", y.measure(3, 0), 61);
        y.setPenalty(0);
        Checks.due("routeAll() with other costs, the same corners", y.routeAll(), 0);
        Checks.due("measure(3, 0)", y.measure(3, 0), 37);
        // Corners that differ in one coordinate, with as many corners as before.
        y.moveBox(2, 0, 1);
        Checks.due("routeAll() with corners that differ by 1", y.routeAll(), 3);
        Checks.dueRoute(y, 1, "M15,20V41");
    }

    private static void routeAllOfOneThatGoesOn() {
        Checks.sentence("Promise 12: a route whose corners differ (one begins with all corners of the other)");
        ConnectorRouter x = Checks.withBox(10, 10, 20, 20);
        x.addBox(40, 10, 50, 20);
        x.link(0, 1, 5, 1, 3, 5);
        Checks.due("routeAll() for the first time", x.routeAll(), 1);
        Checks.dueRoute(x, 0, "M20,15H40");
        x.moveBox(1, 1, 20);
        Checks.due("routeAll() of one that goes on", x.routeAll(), 1);
        Checks.dueRoute(x, 0, "M20,15H40V35H41");
        x.moveBox(1, -1, -20);
        Checks.due("routeAll() of one that ends earlier", x.routeAll(), 1);
        Checks.dueRoute(x, 0, "M20,15H40");
        Checks.due("measure(0, 0)", x.measure(0, 0), 20);
        Checks.due("routeAll() once more", x.routeAll(), 0);
    }

    private static void reroute() {
        Checks.sentence("Promise 13: how many were routed (all that are touched)");
        Checks.due("reroute() of none", new ConnectorRouter().reroute(), 0);
        ConnectorRouter x = Checks.busy();
        Checks.due("reroute() of the one without a route", x.reroute(), 1);
        Checks.due("measure(3, 0) keeps its cost", x.measure(3, 0), 57);
        Checks.due("measure(2, 0)", x.measure(2, 0), 67);
        Checks.due("reroute() again", x.reroute(), 0);
        x.moveBox(0, 0, 1);
        Checks.due("reroute() of three that are touched", x.reroute(), 3);
        Checks.due("count(3)", x.count(3), 0);
        Checks.due("measure(3, 0)", x.measure(3, 0), 60);
        Checks.due("reroute() of ten", Checks.crowded().reroute(), 10);
    }

    private static void refresh() {
        Checks.sentence("Promise 14: all whose route costs more than the best way now, or that are touched");
        Checks.due("refresh() of none", new ConnectorRouter().refresh(), 0);
        Checks.due("refresh() of ten", Checks.crowded().refresh(), 10);
        // Routed with 10: connector 3 costs 57, and 55 with 9, 57 with 10, 59 with 11.
        int[] penalties = {9, 10, 11};
        int[] routed = {1, 0, 0};
        int[] costs = {55, 57, 57};
        for (int i = 0; i < 3; i++) {
            ConnectorRouter x = Checks.busy();
            x.drop(2);
            x.setPenalty(penalties[i]);
            Checks.due("best(2) for " + penalties[i], x.best(2), 37 + 2 * penalties[i]);
            Checks.due("refresh() for " + penalties[i], x.refresh(), routed[i]);
            Checks.due("measure(2, 0) for " + penalties[i], x.measure(2, 0), costs[i]);
        }
        // A route that is touched is routed, although the best way costs more.
        ConnectorRouter y = Checks.busy();
        y.addBox(28, 8, 32, 16);
        Checks.due("best(0)", y.best(0), 24 + 48);
        Checks.due("refresh() of a touched one and the one without a route", y.refresh(), 2);
        Checks.due("measure(0, 0)", y.measure(0, 0), 72);
        Checks.due("measure(3, 0) stays", y.measure(3, 0), 57);
        Checks.due("refresh() again", y.refresh(), 0);
    }

    private static void best() {
        Checks.sentence("Promise 15: the cost of the best way; BAD_INDEX");
        int[] costs = {20, 20, 67, 61};
        for (int i = 0; i < costs.length; i++) {
            int c = i;
            Checks.onlyAsks("best(" + i + ")", Checks::busy, x -> x.best(c), costs[i]);
        }
        Checks.refusedFor("best", Checks::busy, (x, v) -> x.best(v), BAD_INDEX, NO_CONNECTOR);
        Checks.onlyAsks("best(9)", Checks::crowded, x -> x.best(9), 12);
        Checks.refused("best(10)", Checks::crowded, x -> x.best(10), BAD_INDEX);
    }

    private static void measure() {
        Checks.sentence("Promise 16: the property; BAD_INDEX; BAD_VALUE; BAD_STATE if it has no route");
        int[] straight = {20, 20, 2, 1};
        int[] bent = {57, 37, 4, 3};
        for (int i = 0; i < 4; i++) {
            int what = i;
            Checks.onlyAsks("measure(0, " + i + ")", Checks::busy, x -> x.measure(0, what), straight[i]);
            Checks.onlyAsks("measure(3, " + i + ")", Checks::busy, x -> x.measure(3, what), bent[i]);
            Checks.refused("measure(2, " + i + ")", Checks::busy, x -> x.measure(2, what), BAD_STATE);
        }
        Checks.refusedFor("measure", Checks::busy, (x, v) -> x.measure(v, 0), BAD_INDEX, NO_CONNECTOR);
        int[] bad = {LEAST, -1, 4, GREATEST};
        Checks.refusedFor("measure, what", Checks::busy, (x, v) -> x.measure(0, v), BAD_VALUE, bad);
        Checks.refusedFor("measure, what, no route", Checks::busy, (x, v) -> x.measure(2, v), BAD_VALUE, bad);
    }

    private static void corner() {
        Checks.sentence("Promise 17: the coordinate; BAD_INDEX; BAD_VALUE");
        int[][] corners = {{20, 15}, {21, 15}, {21, 50}, {20, 50}};
        for (int i = 0; i < 8; i++) {
            int at = i / 2;
            int what = i % 2;
            Checks.onlyAsks("corner(3, " + at + ", " + what + ")", Checks::busy,
                x -> x.corner(3, at, what), corners[at][what]);
        }
        Checks.refusedFor("corner", Checks::busy, (x, v) -> x.corner(v, 0, 0), BAD_INDEX, NO_CONNECTOR);
        Checks.refusedFor("corner, corner", Checks::busy,
            (x, v) -> x.corner(3, v, 0), BAD_INDEX, LEAST, -1, 4, GREATEST);
        Checks.refusedFor("corner, corner of two", Checks::busy,
            (x, v) -> x.corner(0, v, 1), BAD_INDEX, LEAST, -1, 2, GREATEST);
        Checks.refusedFor("corner, no route", Checks::busy,
            (x, v) -> x.corner(2, v, 0), BAD_INDEX, LEAST, -1, 0, 1, GREATEST);
        Checks.refusedFor("corner, what", Checks::busy,
            (x, v) -> x.corner(3, 0, v), BAD_VALUE, LEAST, -1, 2, GREATEST);
    }

    private static void isOn() {
        Checks.sentence("Promise 18: 1 if it does, 2 if it is a corner; otherwise 0; BAD_INDEX");
        int[][] answers = {{19, 15, 0}, {20, 15, 2}, {21, 15, 2}, {22, 15, 0}, {21, 14, 0}, {21, 16, 1}, {20, 16, 0},
            {22, 16, 0}, {21, 49, 1}, {21, 50, 2}, {21, 51, 0}, {20, 50, 2}, {19, 50, 0}, {20, 49, 0}, {20, 51, 0},
            {LEAST, 15, 0}, {GREATEST, 15, 0}, {21, LEAST, 0}, {21, GREATEST, 0}, {LEAST, LEAST, 0},
            {GREATEST, GREATEST, 0}, {-1, -1, 0}, {100, 100, 0}};
        for (int[] a : answers) {
            Checks.onlyAsks("isOn(3, " + a[0] + ", " + a[1] + ")", Checks::busy, x -> x.isOn(3, a[0], a[1]), a[2]);
        }
        int[][] straight = {{19, 0}, {20, 2}, {21, 1}, {39, 1}, {40, 2}, {41, 0}};
        for (int[] a : straight) {
            Checks.onlyAsks("isOn(0, " + a[0] + ", 15)", Checks::busy, x -> x.isOn(0, a[0], 15), a[1]);
        }
        Checks.onlyAsks("isOn without a route", Checks::busy, x -> x.isOn(2, 45, 20), 0);
        Checks.onlyAsks("isOn without a route, any ints", Checks::busy, x -> x.isOn(2, LEAST, GREATEST), 0);
        Checks.refusedFor("isOn", Checks::busy, (x, v) -> x.isOn(v, 20, 15), BAD_INDEX, NO_CONNECTOR);
        Checks.refusedFor("isOn, any ints", Checks::busy, (x, v) -> x.isOn(v, v, v), BAD_INDEX, LEAST, GREATEST);
    }

    private static void crossings() {
        Checks.sentence("Promise 19: the number, 0 if one of them has no route, or both are the same; BAD_INDEX");
        Checks.refusedFor("crossings", Checks::busy, (x, v) -> x.crossings(v, 0), BAD_INDEX, NO_CONNECTOR);
        Checks.refusedFor("crossings, other", Checks::busy, (x, v) -> x.crossings(0, v), BAD_INDEX, NO_CONNECTOR);
        Checks.refusedFor("crossings, both", Checks::busy, (x, v) -> x.crossings(v, v), BAD_INDEX, NO_CONNECTOR);
        Checks.refusedFor("crossings, no route", Checks::busy, (x, v) -> x.crossings(2, v), BAD_INDEX, NO_CONNECTOR);
        // Two routes that cross; then one of them is new and has none.
        Checks.Making cross = () -> {
            ConnectorRouter x = Checks.withBox(10, 40, 14, 44);
            x.addBox(60, 40, 64, 44);
            x.addBox(35, 10, 39, 14);
            x.addBox(35, 70, 39, 74);
            x.link(0, 1, 2, 1, 3, 2);
            x.link(2, 2, 2, 3, 0, 2);
            x.routeAll();
            x.link(2, 2, 2, 3, 0, 2);
            return x;
        };
        int[][] answers = {{0, 1, 1}, {1, 0, 1}, {0, 0, 0}, {1, 1, 0}, {0, 2, 0}, {2, 0, 0}, {2, 1, 0}, {2, 2, 0}};
        for (int[] a : answers) {
            Checks.onlyAsks("crossings(" + a[0] + ", " + a[1] + ")", cross, x -> x.crossings(a[0], a[1]), a[2]);
        }
        Checks.onlyAsks("count(5)", cross, x -> x.count(5), 1);
    }

    private static void shared() {
        Checks.sentence("Promise 20: the length, 0 if one has no route; the length of the route if both are the same");
        Checks.refusedFor("shared", Checks::busy, (x, v) -> x.shared(v, 0), BAD_INDEX, NO_CONNECTOR);
        Checks.refusedFor("shared, other", Checks::busy, (x, v) -> x.shared(0, v), BAD_INDEX, NO_CONNECTOR);
        Checks.refusedFor("shared, both", Checks::busy, (x, v) -> x.shared(v, v), BAD_INDEX, NO_CONNECTOR);
        Checks.refusedFor("shared, no route", Checks::busy, (x, v) -> x.shared(2, v), BAD_INDEX, NO_CONNECTOR);
        int[][] answers = {{0, 0, 20}, {1, 1, 20}, {2, 2, 0}, {3, 3, 37}, {0, 1, 0}, {0, 2, 0}, {2, 0, 0}, {0, 3, 1},
            {3, 0, 1}, {1, 3, 0}, {2, 3, 0}};
        for (int[] a : answers) {
            Checks.onlyAsks("shared(" + a[0] + ", " + a[1] + ")", Checks::busy, x -> x.shared(a[0], a[1]), a[2]);
        }
    }

    private static void lane() {
        Checks.sentence("Promise 21: what is asked for; BAD_INDEX; BAD_VALUE");
        int[] answers = {20 + 20 - 42, 0, 1, 420};
        for (int i = 0; i < answers.length; i++) {
            int what = i;
            Checks.onlyAsks("lane(3, 1, " + i + ")", Checks::busy, x -> x.lane(3, 1, what), answers[i]);
        }
        Checks.refusedFor("lane", Checks::busy, (x, v) -> x.lane(v, 1, 0), BAD_INDEX, NO_CONNECTOR);
        Checks.refusedFor("lane, segment", Checks::busy,
            (x, v) -> x.lane(3, v, 1), BAD_INDEX, LEAST, -1, 0, 2, 3, GREATEST);
        Checks.refusedFor("lane, segment of a straight route", Checks::busy,
            (x, v) -> x.lane(0, v, 1), BAD_INDEX, LEAST, -1, 0, 1, GREATEST);
        Checks.refusedFor("lane, no route", Checks::busy, (x, v) -> x.lane(2, v, 1), BAD_INDEX, LEAST, 0, 1, GREATEST);
        Checks.refusedFor("lane, what", Checks::busy,
            (x, v) -> x.lane(3, 1, v), BAD_VALUE, LEAST, -1, 4, GREATEST);
    }

    private static void write() {
        Checks.sentence("Promise 22: the length of what is written; BAD_INDEX; BAD_STATE if it has no route");
        Checks.refusedFor("write", Checks::busy, (x, v) -> x.write(v), BAD_INDEX, NO_CONNECTOR);
        Checks.refused("write(2)", Checks::busy, x -> x.write(2), BAD_STATE);
        ConnectorRouter x = Checks.busy();
        Checks.due("written(14) before", x.written(14), '0');
        Checks.due("write(0) in place of what was there", x.write(0), 9);
        Checks.due("written(8)", x.written(8), '0');
        Checks.due("written(9) is gone", x.written(9), BAD_INDEX);
        Checks.due("write(3)", x.write(3), 15);
        x.drop(3);
        Checks.due("written(14) stays without its connector", x.written(14), '0');
        Checks.due("write(3)", x.write(3), BAD_INDEX);
        Checks.due("written(0) stays after an error", x.written(0), 'M');
    }

    private static void written() {
        Checks.sentence("Promise 23: the byte; BAD_INDEX if there is no such byte");
        String want = "M20,15H21V50H20";
        for (int i = 0; i < want.length(); i++) {
            int index = i;
            Checks.onlyAsks("written(" + i + ")", Checks::busy, x -> x.written(index), want.charAt(i));
        }
        Checks.refusedFor("written", Checks::busy, (x, v) -> x.written(v), BAD_INDEX, LEAST, -1, 15, 120, GREATEST);
        Checks.refusedFor("written of nothing", ConnectorRouter::new,
            (x, v) -> x.written(v), BAD_INDEX, LEAST, -1, 0, 1, GREATEST);
    }

    private static void type() {
        Checks.sentence("Promise 24: the length of the text then; BAD_VALUE; FULL if the text has 120 bytes");
        for (int code = 0; code < 256; code++) {
            ConnectorRouter x = new ConnectorRouter();
            Checks.due("type(" + code + ")", x.type(code), 1);
            Checks.due("clearText() behind type(" + code + ")", x.clearText(), 1);
        }
        Checks.refusedFor("type", Checks::busy, (x, v) -> x.type(v), BAD_VALUE, LEAST, -1, 256, GREATEST);
        Checks.refusedFor("type on an empty text", ConnectorRouter::new,
            (x, v) -> x.type(v), BAD_VALUE, LEAST, -1, 256, GREATEST);
        // 256 + 97 is not taken for 97.
        Checks.refused("type(353)", ConnectorRouter::new, x -> x.type(353), BAD_VALUE);
    }

    private static void clearText() {
        Checks.sentence("Promise 25: the length that it had");
        ConnectorRouter x = Checks.busy();
        Checks.due("clearText()", x.clearText(), 18);
        Checks.due("clearText() of none", x.clearText(), 0);
        Checks.due("run() of none", x.run(), BAD_STATE);
        // Nothing of the text before shines through.
        Checks.type(x, "all");
        Checks.due("textFault() of a shorter text", x.textFault(), NONE);
        Checks.due("run() of a shorter text", x.run(), 1);
        Checks.due("count(2)", x.count(2), 12);
        Checks.due("clearText()", x.clearText(), 3);
    }

    private static void textFault() {
        Checks.sentence("Promise 26: the fault; NONE if there is none");
        ConnectorRouter x = new ConnectorRouter();
        String text = "all;drop 12 ";
        int[] faults = {0, 0, NONE, 4, 4, 4, 4, 8, 9, NONE, NONE, NONE};
        Checks.due("textFault() of none", x.textFault(), 0);
        for (int i = 0; i < text.length(); i++) {
            x.type(text.charAt(i));
            Checks.due("textFault() of '" + text.substring(0, i + 1) + "'", x.textFault(), faults[i]);
        }
    }

    private static void run() {
        Checks.sentence("Promise 27: how many commands were carried out without an error; BAD_STATE on a fault");
        String[] faulty = {"", " ", "al", "all;", "drop", "drop 1234", "all;all;all;x"};
        for (String text : faulty) {
            Checks.Making making = () -> {
                ConnectorRouter x = Checks.busy();
                x.clearText();
                Checks.type(x, text);
                return x;
            };
            Checks.refused("run() of '" + text + "'", making, x -> x.run(), BAD_STATE);
        }
        // An error in the first, in the middle and in the last one.
        String[] texts = {"drop 4;penalty 1", "penalty 1;drop 4;penalty 2", "penalty 1;penalty 2;drop 4",
            "penalty 1;penalty 2;drop 3", "link 0 0 0 0 0 0", "box 10 10 20 20;all", "route 4", "penalty 51;all"};
        int[] carriedOut = {0, 1, 2, 3, 0, 0, 0, 0};
        int[] penalties = {12, 1, 2, 2, 12, 12, 12, 12};
        for (int i = 0; i < texts.length; i++) {
            ConnectorRouter x = Checks.busy();
            long before = x.digest();
            x.clearText();
            Checks.type(x, texts[i]);
            Checks.due("run() of " + texts[i], x.run(), carriedOut[i]);
            Checks.due("count(2) behind " + texts[i], x.count(2), penalties[i]);
            Checks.due("undo() behind " + texts[i], x.undo(), 3);
            Checks.due("digest() as before", x.digest(), before);
            Checks.due("undo() of what was before", x.undo(), 2);
            Checks.due("count(2) of what was before", x.count(2), 10);
            Checks.due("the text stays", x.clearText(), texts[i].length());
        }
    }

    private static void runOneByOne() {
        Checks.sentence("Promise 27: up to the first one that returns an error (FULL too); the text stays");
        ConnectorRouter x = Checks.crowded();
        Checks.type(x, "drop 9;link 0 0 0 1 0 0;link 0 0 1 1 0 1;penalty 3");
        Checks.due("run() up to FULL", x.run(), 2);
        Checks.due("count(1)", x.count(1), 10);
        Checks.due("count(2)", x.count(2), 10);
        Checks.due("run() again", x.run(), 2);
        Checks.due("undo() of both", x.undo(), 3);
        Checks.due("undo() of both", x.undo(), 2);
        Checks.due("connector(9, 1)", x.connector(9, 1), 1);
        // The commands record nothing, but behind them calls are recorded again.
        ConnectorRouter y = Checks.typed("penalty 1;penalty 2;penalty 3;penalty 4;penalty 5");
        Checks.due("run() of five", y.run(), 5);
        Checks.due("undo() of five", y.undo(), 0);
        Checks.due("count(2)", y.count(2), 10);
        y.run();
        Checks.due("setPenalty(6)", y.setPenalty(6), 5);
        Checks.due("undo() of setPenalty", y.undo(), 1);
        Checks.due("count(2)", y.count(2), 5);
    }

    private static void undo() {
        Checks.sentence("Promise 28: the number of states that are left in it; BAD_STATE if it is empty");
        Checks.refused("undo() of a new object", ConnectorRouter::new, x -> x.undo(), BAD_STATE);
        Checks.Making used = () -> {
            ConnectorRouter x = Checks.busy();
            for (int left = 3; left >= 0; left--) {
                Checks.due("undo()", x.undo(), left);
            }
            return x;
        };
        Checks.refused("undo() of a used history", used, x -> x.undo(), BAD_STATE);
        // undo() is not recorded itself: what it took back is gone.
        ConnectorRouter x = Checks.busy();
        long[] digests = new long[5];
        for (int i = 0; i < 5; i++) {
            digests[i] = x.digest();
            for (int j = 0; j < i; j++) {
                Checks.due("equal digests of states that differ", digests[i] == digests[j] ? 1 : 0, 0);
            }
            x.undo();
        }
        Checks.due("count(1) of the oldest state", x.count(1), 4);
        Checks.due("connector(0, 10) of the oldest state", x.connector(0, 10), 0);
    }

    private static long hash(int... values) {
        long h = 19;
        for (int v : values) {
            h = 31 * h + v;
        }
        return h;
    }

    private static void digest() {
        Checks.sentence("Promise 29: h is 19; for each v h becomes 31 * h + v (long arithmetic with overflow)");
        Checks.due("digest() of nothing", new ConnectorRouter().digest(), hash(0, 10, 0));
        Checks.due("digest() of a box", Checks.withBox(2, 3, 96, 97).digest(), hash(1, 2, 3, 96, 97, 10, 0));
        Checks.due("digest() with overflow", Checks.busy().digest(), hash(3, 10, 10, 20, 20, 40, 10, 50, 20,
            10, 40, 20, 60, 12, 4,
            0, 1, 5, 1, 3, 5, 1, 20, 2, 20, 15, 40, 15,
            0, 2, 5, 2, 0, 5, 1, 20, 2, 15, 20, 15, 40,
            1, 2, 5, 2, 1, 10, 0,
            0, 1, 5, 2, 1, 10, 1, 57, 4, 20, 15, 21, 15, 21, 50, 20, 50));
    }

    private static void digestOfEach() {
        Checks.sentence("Promise 29: the ints that are told, and no other one");
        ConnectorRouter x = Checks.busy();
        long before = x.digest();
        x.clearText();
        x.write(0);
        x.type(97);
        Checks.due("digest() leaves out the text and what is written", x.digest(), before);
        x.setPenalty(12);
        Checks.due("digest() leaves out the history", x.digest(), before);
        x.route(3);
        Checks.due("digest() has the cost", x.digest() == before ? 1 : 0, 0);
        x.undo();
        Checks.due("digest() behind undo()", x.digest(), before);
    }
}
