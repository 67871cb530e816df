/** Each sentence of the document's "Description" that names a boundary case, but for texts and history. */
public final class DescriptionEdges {
    private static final int NONE = Checks.NONE, BAD_INDEX = Checks.BAD_INDEX, BAD_VALUE = Checks.BAD_VALUE;
    private static final int BAD_STATE = Checks.BAD_STATE, FULL = Checks.FULL;
    private static final int LEAST = Checks.LEAST, GREATEST = Checks.GREATEST;

    public static void main(String[] args) {
        points();
        boxesAtMost();
        leftAndTop();
        rightAndBottom();
        rightGreaterThanLeft();
        gapOfAddedBoxes();
        gapAtCorners();
        gapOfMovedBoxes();
        blockedPoints();
        offsets();
        outerPoints();
        connectorsAtMost();
        differentPorts();
        gridLines();
        gridAtTheRim();
        gridOfEightBoxes();
        gridLinesThatCoincide();
        bends();
        sameOuterPoints();
        penaltyRange();
        leastCost();
        firstOfEqualWays();
        nodeToNode();
        routesKeep();
        touchedEnds();
        touchedPoints();
        touchedCorner();
        touchedCornerOfEachKind();
        crossingAtEnds();
        crossingAtCorners();
        sharedLength();
        sharedOfSeveral();
        innerSegments();
        collisions();
        collisionsOfInnerOnes();
        bundleByReach();
        bundlesOfOneLine();
        bundlesOneByOne();
        bundlesOfFortySegments();
        pulls();
        equalPulls();
        equalPullsOfOneRoute();
        places();
        Checks.finish();
    }

    // ---- canvas, boxes

    private static void points() {
        Checks.sentence("Points have ints x and y from 0 to 99");
        int[][] corners = {{0, 0}, {99, 0}, {0, 99}, {99, 99}};
        for (int[] c : corners) {
            Checks.onlyAsks("blocker at a corner", Checks::busy, x -> x.blocker(c[0], c[1]), NONE);
        }
        int[] outside = {LEAST, -1, 100, GREATEST};
        Checks.refusedFor("blocker, x", Checks::busy, (x, v) -> x.blocker(v, 15), BAD_VALUE, outside);
        Checks.refusedFor("blocker, y", Checks::busy, (x, v) -> x.blocker(15, v), BAD_VALUE, outside);
        Checks.refusedFor("blocker, both", Checks::busy, (x, v) -> x.blocker(v, v), BAD_VALUE, outside);
    }

    private static void boxesAtMost() {
        Checks.sentence("There are at most 8 boxes, numbered from 0");
        ConnectorRouter x = new ConnectorRouter();
        for (int i = 0; i < 8; i++) {
            Checks.due("box(" + i + ", 0) before it is there", x.box(i, 0), BAD_INDEX);
            Checks.due("addBox", x.addBox(2 + 10 * i, 5, 8 + 10 * i, 9), i);
            Checks.due("box(" + i + ", 0)", x.box(i, 0), 2 + 10 * i);
        }
        Checks.due("count(0)", x.count(0), 8);
        Checks.refused("a ninth box", Checks::crowded, y -> y.addBox(5, 70, 15, 80), FULL);
        Checks.due("undo() makes room", x.undo(), 3);
        Checks.due("an eighth box again", x.addBox(2, 20, 8, 30), 7);
    }

    private static void leftAndTop() {
        Checks.sentence("with x1 at least 2 (and likewise for y1)");
        Checks.withBox(2, 50, 9, 60);
        Checks.withBox(50, 2, 60, 9);
        int[] tooSmall = {LEAST, -1, 0, 1};
        Checks.refusedFor("addBox, x1", Checks::busy, (x, v) -> x.addBox(v, 80, 9, 90), BAD_VALUE, tooSmall);
        Checks.refusedFor("addBox, y1", Checks::busy, (x, v) -> x.addBox(80, v, 90, 9), BAD_VALUE, tooSmall);
        // A box of width 4 at (10, 10) moves by -8 to the rim, but not by -9.
        Checks.Making box = () -> Checks.withBox(10, 10, 14, 14);
        Checks.due("moveBox to x1 2", box.make().moveBox(0, -8, 0), 0);
        Checks.due("moveBox to y1 2", box.make().moveBox(0, 0, -8), 0);
        Checks.refusedFor("moveBox, dx", box, (x, v) -> x.moveBox(0, v, 0), BAD_VALUE, LEAST, -99, -10, -9);
        Checks.refusedFor("moveBox, dy", box, (x, v) -> x.moveBox(0, 0, v), BAD_VALUE, LEAST, -99, -10, -9);
    }

    private static void rightAndBottom() {
        Checks.sentence("x2 at most 97 (and likewise for y2)");
        Checks.withBox(90, 50, 97, 60);
        Checks.withBox(50, 90, 60, 97);
        int[] tooGreat = {98, 99, 100, GREATEST};
        Checks.refusedFor("addBox, x2", Checks::busy, (x, v) -> x.addBox(80, 80, v, 90), BAD_VALUE, tooGreat);
        Checks.refusedFor("addBox, y2", Checks::busy, (x, v) -> x.addBox(80, 80, 90, v), BAD_VALUE, tooGreat);
        Checks.Making box = () -> Checks.withBox(80, 80, 90, 90);
        Checks.due("moveBox to x2 97", box.make().moveBox(0, 7, 0), 0);
        Checks.due("moveBox to y2 97", box.make().moveBox(0, 0, 7), 0);
        Checks.refusedFor("moveBox, dx", box, (x, v) -> x.moveBox(0, v, 0), BAD_VALUE, 8, 9, 99, GREATEST);
        Checks.refusedFor("moveBox, dy", box, (x, v) -> x.moveBox(0, 0, v), BAD_VALUE, 8, 9, 99, GREATEST);
        // The largest box fills the canvas and can't be moved at all, but by 0.
        Checks.Making largest = () -> Checks.withBox(2, 2, 97, 97);
        Checks.refusedFor("moveBox of the largest, dx", largest, (x, v) -> x.moveBox(0, v, 0), BAD_VALUE, -1, 1);
        Checks.refusedFor("moveBox of the largest, dy", largest, (x, v) -> x.moveBox(0, 0, v), BAD_VALUE, -1, 1);
        Checks.due("moveBox of the largest by 0", largest.make().moveBox(0, 0, 0), 0);
    }

    private static void rightGreaterThanLeft() {
        Checks.sentence("x2 greater than x1 (and likewise for y1 and y2)");
        Checks.withBox(70, 70, 71, 71);
        Checks.withBox(2, 2, 3, 3);
        Checks.withBox(96, 96, 97, 97);
        int[] tooLow = {LEAST, 2, 69, 70};
        Checks.refusedFor("addBox, x2", Checks::busy, (x, v) -> x.addBox(70, 70, v, 75), BAD_VALUE, tooLow);
        Checks.refusedFor("addBox, y2", Checks::busy, (x, v) -> x.addBox(70, 70, 75, v), BAD_VALUE, tooLow);
        Checks.refused("addBox of a point", Checks::busy, x -> x.addBox(70, 70, 70, 70), BAD_VALUE);
        int[] tooHigh = {76, 97, GREATEST};
        Checks.refusedFor("addBox, x1", Checks::busy, (x, v) -> x.addBox(v, 70, 75, 75), BAD_VALUE, tooHigh);
        Checks.refusedFor("addBox, y1", Checks::busy, (x, v) -> x.addBox(70, v, 75, 75), BAD_VALUE, tooHigh);
        Checks.refused("addBox upside down", Checks::busy,
            x -> x.addBox(GREATEST, GREATEST, LEAST, LEAST), BAD_VALUE);
    }

    private static ConnectorRouter middle() {
        return Checks.withBox(40, 40, 50, 50);
    }

    private static void fits(int x1, int y1, int x2, int y2) {
        Checks.due("addBox(" + x1 + ", " + y1 + ", " + x2 + ", " + y2 + ")", middle().addBox(x1, y1, x2, y2), 1);
    }

    private static void tooNear(int x1, int y1, int x2, int y2) {
        Checks.refused("addBox(" + x1 + ", " + y1 + ", " + x2 + ", " + y2 + ")", DescriptionEdges::middle,
            x -> x.addBox(x1, y1, x2, y2), BAD_STATE);
    }

    private static void gapOfAddedBoxes() {
        Checks.sentence("For any two boxes the gap is at least 2");
        fits(52, 40, 60, 50);
        tooNear(51, 40, 60, 50);
        tooNear(50, 40, 60, 50);
        fits(30, 40, 38, 50);
        tooNear(30, 40, 39, 50);
        tooNear(30, 40, 40, 50);
        fits(40, 52, 50, 60);
        tooNear(40, 51, 50, 60);
        tooNear(40, 50, 50, 60);
        fits(40, 30, 50, 38);
        tooNear(40, 30, 50, 39);
        tooNear(40, 30, 50, 40);
        tooNear(40, 40, 50, 50);
        tooNear(44, 44, 46, 46);
        tooNear(2, 2, 97, 97);
        tooNear(30, 44, 60, 46);
        tooNear(44, 30, 46, 60);
        // Any two: the first, the one in the middle and the last of three.
        Checks.refused("addBox near box 0", Checks::busy, x -> x.addBox(21, 15, 30, 16), BAD_STATE);
        Checks.refused("addBox near box 1", Checks::busy, x -> x.addBox(51, 15, 60, 16), BAD_STATE);
        Checks.refused("addBox near box 2", Checks::busy, x -> x.addBox(10, 61, 20, 70), BAD_STATE);
        Checks.due("addBox near none", Checks.busy().addBox(22, 15, 38, 16), 3);
    }

    private static void gapAtCorners() {
        Checks.sentence(
            "x1 of one is at least x2 of the other plus 2, or y1 of one is at least y2 of the other plus 2");
        int[][] nearX = {{51, 60}, {30, 39}};
        int[][] farX = {{52, 60}, {30, 38}};
        for (int i = 0; i < 2; i++) {
            for (int j = 0; j < 2; j++) {
                tooNear(nearX[i][0], nearX[j][0], nearX[i][1], nearX[j][1]);
                fits(farX[i][0], nearX[j][0], farX[i][1], nearX[j][1]);
                fits(nearX[i][0], farX[j][0], nearX[i][1], farX[j][1]);
                fits(farX[i][0], farX[j][0], farX[i][1], farX[j][1]);
            }
        }
    }

    private static void gapOfMovedBoxes() {
        Checks.sentence("For any two boxes the gap is at least 2 (of a box that moves)");
        Checks.Making two = () -> {
            ConnectorRouter x = middle();
            x.addBox(60, 40, 64, 44);
            return x;
        };
        Checks.due("moveBox to a gap of 2, left", two.make().moveBox(1, -8, 0), 0);
        Checks.refused("moveBox to a gap of 1, left", two, x -> x.moveBox(1, -9, 0), BAD_STATE);
        Checks.due("moveBox to a gap of 2, right", two.make().moveBox(0, 8, 0), 0);
        Checks.refused("moveBox to a gap of 1, right", two, x -> x.moveBox(0, 9, 0), BAD_STATE);
        Checks.due("moveBox to a gap of 2, below", two.make().moveBox(1, -12, 12), 0);
        Checks.refused("moveBox to a gap of 1, below", two, x -> x.moveBox(1, -12, 11), BAD_STATE);
        Checks.due("moveBox to a gap of 2, above", two.make().moveBox(1, -12, -6), 0);
        Checks.refused("moveBox to a gap of 1, above", two, x -> x.moveBox(1, -12, -5), BAD_STATE);
        Checks.refused("moveBox onto the other", two, x -> x.moveBox(1, -20, 0), BAD_STATE);
        Checks.due("moveBox to a gap of 2 at the corner", two.make().moveBox(1, -8, 11), 0);
        Checks.refused("moveBox to a gap of 1 at the corner", two, x -> x.moveBox(1, -9, 11), BAD_STATE);
        // Its own place is none that it must keep a gap to.
        Checks.due("moveBox over its own place", two.make().moveBox(0, 1, 1), 0);
        Checks.due("moveBox past the other one", two.make().moveBox(1, -50, 0), 0);
    }

    private static void blockedPoints() {
        Checks.sentence("A point is blocked by a box, if x is greater than x1 - 1 and less than x2 + 1");
        int[][] answers = {
            {39, 50, NONE}, {40, 50, 0}, {41, 50, 0}, {49, 50, 0}, {50, 50, 0}, {51, 50, NONE},
            {45, 39, NONE}, {45, 40, 0}, {45, 60, 0}, {45, 61, NONE},
            {40, 40, 0}, {50, 40, 0}, {40, 60, 0}, {50, 60, 0},
            {39, 39, NONE}, {51, 39, NONE}, {39, 61, NONE}, {51, 61, NONE},
            {39, 40, NONE}, {40, 39, NONE}, {51, 60, NONE}, {50, 61, NONE}};
        for (int[] a : answers) {
            Checks.onlyAsks("blocker(" + a[0] + ", " + a[1] + ")", () -> Checks.withBox(40, 40, 50, 60),
                x -> x.blocker(a[0], a[1]), a[2]);
        }
        ConnectorRouter y = Checks.withBox(2, 2, 97, 97);
        Checks.due("blocker(2, 2)", y.blocker(2, 2), 0);
        Checks.due("blocker(97, 97)", y.blocker(97, 97), 0);
        Checks.due("blocker(1, 2)", y.blocker(1, 2), NONE);
        Checks.due("blocker(97, 98)", y.blocker(97, 98), NONE);
        // The line between two boxes with a gap of 2 is free.
        y = Checks.withBox(10, 10, 20, 20);
        y.addBox(22, 10, 30, 20);
        Checks.due("blocker(20, 15)", y.blocker(20, 15), 0);
        Checks.due("blocker(21, 15)", y.blocker(21, 15), NONE);
        Checks.due("blocker(22, 15)", y.blocker(22, 15), 1);
    }

    // ---- ports, connectors

    /** A box with sides of 10 and 20, and one that is as small as can be. */
    private static ConnectorRouter oblong() {
        ConnectorRouter x = Checks.withBox(30, 40, 40, 60);
        x.addBox(80, 80, 81, 81);
        return x;
    }

    private static void offsets() {
        Checks.sentence("the offset is from 0 to the length of the side, from the left or the upper end");
        int[] lengths = {10, 20, 10, 20};
        int[][] atStart = {{30, 40}, {40, 40}, {30, 60}, {30, 40}};
        int[][] atEnd = {{40, 40}, {40, 60}, {40, 60}, {30, 60}};
        for (int side = 0; side < 4; side++) {
            int s = side;
            int[] bad = {LEAST, -1, lengths[side] + 1, GREATEST};
            Checks.refusedFor("link from side " + s + ", offset", DescriptionEdges::oblong,
                (x, v) -> x.link(0, s, v, 1, 0, 0), BAD_VALUE, bad);
            Checks.refusedFor("link to side " + s + ", offset", DescriptionEdges::oblong,
                (x, v) -> x.link(1, 0, 0, 0, s, v), BAD_VALUE, bad);
            ConnectorRouter x = oblong();
            Checks.due("link at offset 0 of side " + s, x.link(0, s, 0, 1, s, 1), 0);
            Checks.due("link at the end of side " + s, x.link(1, s, 0, 0, s, lengths[s]), 1);
            Checks.due("x at offset 0 of side " + s, x.connector(0, 6), atStart[s][0]);
            Checks.due("y at offset 0 of side " + s, x.connector(0, 7), atStart[s][1]);
            Checks.due("x at the end of side " + s, x.connector(1, 8), atEnd[s][0]);
            Checks.due("y at the end of side " + s, x.connector(1, 9), atEnd[s][1]);
            Checks.refused("link at offset 2 of a side of 1", DescriptionEdges::oblong,
                y -> y.link(1, s, 2, 0, 0, 0), BAD_VALUE);
        }
        int[] noSides = {LEAST, -1, 4, GREATEST};
        Checks.refusedFor("link, side", DescriptionEdges::oblong,
            (x, v) -> x.link(0, v, 0, 1, 0, 0), BAD_VALUE, noSides);
        Checks.refusedFor("link, toSide", DescriptionEdges::oblong,
            (x, v) -> x.link(1, 0, 0, 0, v, 0), BAD_VALUE, noSides);
    }

    private static void outerPoints() {
        Checks.sentence("Its outer point is the point at the distance 1 from it in the direction of the side");
        String[] routes = {"M30,40V39H40V40", "M40,40H41V60H40", "M30,60V61H40V60", "M30,40H29V60H30"};
        int[] lengths = {10, 20, 10, 20};
        for (int side = 0; side < 4; side++) {
            ConnectorRouter x = oblong();
            x.link(0, side, 0, 0, side, lengths[side]);
            Checks.due("route along side " + side, x.route(0), 2 + lengths[side] + 20);
            Checks.dueRoute(x, 0, routes[side]);
        }
    }

    private static void connectorsAtMost() {
        Checks.sentence("There are at most 10 connectors, numbered from 0; none has a route at first");
        ConnectorRouter x = oblong();
        for (int i = 0; i < 10; i++) {
            Checks.due("connector(" + i + ", 0) before it is there", x.connector(i, 0), BAD_INDEX);
            Checks.due("link", x.link(0, 0, i, 1, 0, 0), i);
            Checks.due("connector(" + i + ", 2)", x.connector(i, 2), i);
            Checks.due("connector(" + i + ", 10)", x.connector(i, 10), 0);
        }
        Checks.due("count(1)", x.count(1), 10);
        Checks.refused("an eleventh connector", Checks::crowded, y -> y.link(0, 0, 0, 1, 0, 0), FULL);
        Checks.due("drop(9) makes room", x.drop(9), 9);
        Checks.due("a tenth connector again", x.link(0, 1, 0, 1, 0, 0), 9);
    }

    private static void differentPorts() {
        Checks.sentence("a first port and a last port, which are different (in their boxes, sides or offsets)");
        for (int side = 0; side < 4; side++) {
            int s = side;
            Checks.refused("link with one port twice", DescriptionEdges::oblong,
                x -> x.link(0, s, 1, 0, s, 1), BAD_STATE);
            Checks.due("link, offsets differ", oblong().link(0, s, 1, 0, s, 0), 0);
            Checks.due("link, sides differ", oblong().link(0, s, 1, 0, (s + 1) % 4, 1), 0);
            Checks.due("link, boxes differ", oblong().link(0, s, 1, 1, s, 1), 0);
        }
        // Different ports can have the same point, at a corner of their box.
        ConnectorRouter x = oblong();
        Checks.due("link with one point twice", x.link(0, 1, 0, 0, 0, 10), 0);
        Checks.due("x", x.connector(0, 6), x.connector(0, 8));
        Checks.due("y", x.connector(0, 7), x.connector(0, 9));
        Checks.due("route to the same point", x.route(0), 2 + 2 + 30);
        Checks.dueRoute(x, 0, "M40,40H41V39H40V40");
        Checks.due("it is not touched", x.connector(0, 11), 0);
    }

    // ---- grid, ways

    private static void gridLines() {
        Checks.sentence(
            "The grid of a connector consists of the lines at the distance 1 and through its outer points");
        // A way turns on lines of the grid alone: x = 15 and 29 here, not between them.
        ConnectorRouter x = Checks.withBox(10, 10, 14, 14);
        x.addBox(30, 30, 34, 34);
        x.link(0, 1, 2, 1, 3, 2);
        x.route(0);
        Checks.dueRoute(x, 0, "M14,12H29V32H30");
        // Between boxes with a gap of 2 there is a line, and a way on it.
        ConnectorRouter y = Checks.withBox(10, 10, 20, 20);
        y.addBox(22, 10, 32, 20);
        y.link(0, 0, 10, 0, 2, 10);
        y.route(0);
        Checks.dueRoute(y, 0, "M20,10V9H21V21H20V20");
        y.link(1, 0, 0, 1, 2, 0);
        y.route(1);
        Checks.dueRoute(y, 1, "M22,10V9H21V21H22V20");
        // The lines through an outer point count as well: both turn at the height of the last port.
        ConnectorRouter z = Checks.withBox(10, 10, 20, 20);
        z.addBox(60, 40, 70, 60);
        z.link(0, 2, 3, 1, 3, 7);
        Checks.due("route with one bend", z.route(0), 47 + 27 + 10);
        Checks.dueRoute(z, 0, "M13,20V47H60");
    }

    private static void gridAtTheRim() {
        Checks.sentence("for each box the vertical lines x1 - 1 and x2 + 1 (of the largest box)");
        ConnectorRouter x = Checks.withBox(2, 2, 97, 97);
        x.link(0, 0, 47, 0, 2, 47);
        x.link(0, 0, 48, 0, 2, 48);
        x.link(0, 3, 47, 0, 1, 47);
        x.link(0, 3, 48, 0, 1, 48);
        Checks.due("route by the left", x.route(0), 2 + 48 + 97 + 48 + 40);
        Checks.dueRoute(x, 0, "M49,2V1H1V98H49V97");
        x.route(1);
        Checks.dueRoute(x, 1, "M50,2V1H98V98H50V97");
        x.route(2);
        Checks.dueRoute(x, 2, "M2,49H1V1H98V49H97");
        x.route(3);
        Checks.dueRoute(x, 3, "M2,50H1V98H98V50H97");
    }

    /** Boxes of which no two have a line in common, in two rows that are shifted against one another. */
    private static ConnectorRouter eight() {
        ConnectorRouter x = new ConnectorRouter();
        for (int i = 0; i < 8; i++) {
            Checks.due("addBox", x.addBox(4 + 11 * i, i % 2 == 0 ? 10 + 3 * i : 50 + 3 * i, 10 + 11 * i,
                i % 2 == 0 ? 30 + 3 * i : 70 + 3 * i), i);
        }
        return x;
    }

    private static void gridOfEightBoxes() {
        Checks.sentence(
            "for each box the lines x1 - 1, x2 + 1, y1 - 1 and y2 + 1; and those through its two outer points");
        ConnectorRouter x = eight();
        x.link(0, 2, 2, 7, 0, 2);
        x.link(7, 0, 2, 0, 2, 2);
        x.link(0, 0, 3, 7, 2, 3);
        x.link(6, 1, 5, 1, 3, 6);
        // Between the rows there are the lines y = 49 and 52; the first of equal ways takes one or the other.
        int[] costs = {118 + 20, 118 + 20, 162 + 40, 91 + 40};
        String[] routes = {"M6,30V49H83V71", "M83,71V49H6V30", "M7,10V9H80V92H84V91", "M76,33H77V52H14V59H15"};
        for (int round = 0; round < 2; round++) {
            for (int i = 0; i < 4; i++) {
                Checks.due("route(" + i + ")", x.route(i), costs[i]);
                Checks.dueRoute(x, i, routes[i]);
            }
            // There and back again: nothing of the grids before is left.
            for (int i = 0; i < 8; i++) {
                x.moveBox(i, 1, 1);
                x.best(i % 4);
                x.moveBox(i, -1, -1);
            }
        }
    }

    private static void gridLinesThatCoincide() {
        Checks.sentence("The grid of a connector consists of these lines (a line of two boxes is one line)");
        ConnectorRouter x = Checks.withBox(10, 10, 14, 14);
        x.addBox(10, 30, 14, 34);
        x.addBox(30, 10, 34, 14);
        x.setPenalty(0);
        x.link(0, 3, 2, 1, 3, 2);
        x.link(1, 3, 2, 0, 3, 2);
        x.link(0, 0, 2, 2, 0, 2);
        x.link(2, 0, 2, 0, 0, 2);
        x.link(0, 1, 2, 1, 1, 2);
        x.link(0, 2, 2, 2, 2, 2);
        String[] routes = {"M10,12H9V32H10", "M10,32H9V12H10", "M12,10V9H32V10", "M32,10V9H12V10",
            "M14,12H15V32H14", "M12,14V15H32V14"};
        Checks.due("routeAll()", x.routeAll(), 6);
        for (int i = 0; i < routes.length; i++) {
            Checks.due("measure(" + i + ", 0)", x.measure(i, 0), 22);
            Checks.dueRoute(x, i, routes[i]);
        }
    }

    private static void bends() {
        Checks.sentence(
            "Its bends are the steps whose direction is not that of the step before, and one more at the end");
        ConnectorRouter x = Checks.withBox(10, 10, 20, 20);
        x.addBox(60, 10, 70, 20);
        x.addBox(60, 60, 70, 70);
        x.link(0, 1, 5, 1, 3, 5);
        x.link(0, 2, 5, 2, 3, 5);
        x.link(0, 1, 5, 2, 3, 5);
        x.link(0, 0, 5, 1, 0, 5);
        x.link(0, 1, 5, 1, 0, 5);
        x.link(0, 1, 5, 1, 1, 5);
        int[] lengths = {40, 45 + 45, 40 + 50, 1 + 50 + 1, 39 + 6 + 6 + 1, 39 + 6 + 12 + 6 + 1};
        int[] bends = {0, 1, 2, 2, 3, 4};
        int[] penalties = {0, 1, 10, 49, 50};
        x.routeAll();
        for (int i = 0; i < lengths.length; i++) {
            Checks.due("measure(" + i + ", 1)", x.measure(i, 1), lengths[i]);
            Checks.due("measure(" + i + ", 2)", x.measure(i, 2), bends[i] + 2);
        }
        for (int p : penalties) {
            x.setPenalty(p);
            for (int i = 0; i < lengths.length; i++) {
                Checks.due("best(" + i + ") for " + p, x.best(i), lengths[i] + p * bends[i]);
            }
        }
    }

    private static void sameOuterPoints() {
        Checks.sentence(
            "If both outer points are the same, a way without steps has no bends if the sides are opposite");
        for (int penalty : new int[] {0, 10, 50}) {
            ConnectorRouter x = Checks.withBox(10, 10, 20, 20);
            x.addBox(22, 10, 30, 20);
            x.addBox(10, 22, 20, 30);
            x.setPenalty(penalty);
            x.link(0, 1, 5, 1, 3, 5);
            x.link(1, 3, 5, 0, 1, 5);
            x.link(0, 2, 5, 2, 0, 5);
            x.link(2, 0, 5, 0, 2, 5);
            String[] routes = {"M20,15H22", "M22,15H20", "M15,20V22", "M15,22V20"};
            for (int i = 0; i < 4; i++) {
                Checks.due("best", x.best(i), 2);
                Checks.due("route", x.route(i), 2);
                Checks.dueRoute(x, i, routes[i]);
                Checks.due("length", x.measure(i, 1), 2);
                Checks.due("segments", x.measure(i, 3), 1);
                Checks.due("touched", x.connector(i, 11), 0);
            }
            // With the distance 1 between the outer points there are steps.
            x.link(0, 1, 5, 1, 3, 6);
            Checks.due("route with one step", x.route(4), 2 + 1 + 2 * penalty);
            Checks.dueRoute(x, 4, "M20,15H21V16H22");
        }
        ConnectorRouter y = Checks.withBox(10, 10, 20, 20);
        y.addBox(23, 10, 30, 20);
        y.link(0, 1, 5, 1, 3, 5);
        Checks.due("route over a gap of 3", y.route(0), 3);
    }

    private static void penaltyRange() {
        Checks.sentence("the penalty (0 to 50; 10 at first)");
        Checks.due("count(2) at first", new ConnectorRouter().count(2), 10);
        Checks.due("setPenalty(0)", Checks.busy().setPenalty(0), 12);
        Checks.due("setPenalty(50)", Checks.busy().setPenalty(50), 12);
        Checks.refusedFor("setPenalty", Checks::busy, (x, v) -> x.setPenalty(v), BAD_VALUE, LEAST, -1, 51, GREATEST);
    }

    private static void leastCost() {
        Checks.sentence(
            "The best way is the one with the least cost; of several the one that is lexicographically first");
        // 30 + 5 bends or 44 + 3 bends: equal for 7, and up comes before down.
        ConnectorRouter x = Checks.withBox(5, 10, 15, 25);
        x.addBox(20, 10, 40, 15);
        x.link(0, 3, 2, 1, 2, 2);
        int[] costs = {60, 65, 68};
        String[] routes = {"M5,12H4V9H19V16H22V15", "M5,12H4V9H19V16H22V15", "M5,12H4V26H22V15"};
        for (int i = 0; i < 3; i++) {
            x.setPenalty(6 + i);
            Checks.due("route for " + (6 + i), x.route(0), costs[i]);
            Checks.dueRoute(x, 0, routes[i]);
        }
        // 51 + 5 bends or 75 + 3 bends: equal for 12, and right comes before down.
        ConnectorRouter y = Checks.withBox(20, 5, 25, 25);
        y.addBox(25, 35, 40, 50);
        y.link(0, 1, 2, 1, 2, 2);
        int[] costsOfOther = {106, 111, 114};
        String[] routesOfOther = {"M25,7H26V34H24V51H27V50", "M25,7H41V51H27V50", "M25,7H41V51H27V50"};
        for (int i = 0; i < 3; i++) {
            y.setPenalty(11 + i);
            Checks.due("route for " + (11 + i), y.route(0), costsOfOther[i]);
            Checks.dueRoute(y, 0, routesOfOther[i]);
        }
    }

    private static void firstOfEqualWays() {
        Checks.sentence("the one whose sequence of directions of its steps is lexicographically first");
        // Up before down, around a box in the middle (and behind it down before left).
        ConnectorRouter x = Checks.withBox(10, 20, 14, 24);
        x.addBox(40, 20, 44, 24);
        x.addBox(25, 20, 29, 24);
        x.link(0, 1, 2, 1, 3, 2);
        x.link(1, 3, 2, 0, 1, 2);
        Checks.due("routeAll()", x.routeAll(), 2);
        Checks.dueRoute(x, 0, "M14,22H15V19H39V22H40");
        Checks.dueRoute(x, 1, "M40,22H39V19H24V22H14");
        // Right before left.
        ConnectorRouter y = Checks.withBox(20, 10, 24, 14);
        y.addBox(20, 40, 24, 44);
        y.addBox(20, 25, 24, 29);
        y.link(0, 2, 2, 1, 0, 2);
        y.link(1, 0, 2, 0, 2, 2);
        Checks.due("routeAll()", y.routeAll(), 2);
        Checks.dueRoute(y, 0, "M22,14V15H25V39H22V40");
        Checks.dueRoute(y, 1, "M22,40V30H25V15H22V14");
        // Right before down, up before left, up before right, down before left.
        for (int penalty : new int[] {0, 10}) {
            ConnectorRouter z = Checks.withBox(10, 10, 14, 14);
            z.addBox(30, 30, 34, 34);
            z.addBox(50, 30, 54, 34);
            z.addBox(70, 10, 74, 14);
            z.setPenalty(penalty);
            z.link(0, 1, 2, 1, 3, 2);
            z.link(1, 3, 2, 0, 1, 2);
            z.link(2, 1, 2, 3, 3, 2);
            z.link(3, 3, 2, 2, 1, 2);
            z.routeAll();
            Checks.dueRoute(z, 0, "M14,12H29V32H30");
            Checks.dueRoute(z, 1, "M30,32H29V12H14");
            Checks.dueRoute(z, 2, "M54,32H55V12H70");
            Checks.dueRoute(z, 3, "M70,12H69V32H54");
        }
    }

    private static void nodeToNode() {
        Checks.sentence("the sequence of directions of its steps, from node to node");
        // By nodes, right, up, right comes before right, right, up; by segments it would not.
        ConnectorRouter x = Checks.withBox(10, 30, 14, 34);
        x.addBox(30, 10, 34, 14);
        x.link(0, 2, 2, 1, 3, 2);
        x.setPenalty(0);
        Checks.due("route without penalty", x.route(0), 2 + 17 + 23);
        Checks.dueRoute(x, 0, "M12,34V35H15V12H30");
        x.setPenalty(1);
        Checks.due("route with a penalty", x.route(0), 2 + 17 + 23 + 3);
    }

    private static void routesKeep() {
        Checks.sentence("A route keeps its corners and its cost, whatever becomes of the boxes and the penalty");
        ConnectorRouter x = Checks.busy();
        x.setPenalty(0);
        x.moveBox(0, 0, 12);
        x.moveBox(2, 70, 0);
        x.addBox(30, 2, 35, 19);
        x.setPenalty(50);
        Checks.dueRoute(x, 0, "M20,15H40");
        Checks.dueRoute(x, 1, "M15,20V40");
        Checks.dueRoute(x, 3, "M20,15H21V50H20");
        int[] costs = {20, 20, BAD_STATE, 57};
        for (int i = 0; i < 4; i++) {
            Checks.due("measure(" + i + ", 0)", x.measure(i, 0), costs[i]);
        }
        Checks.due("count(4)", x.count(4), 97);
    }

    // ---- touched routes

    private static void touchedEnds() {
        Checks.sentence("A route is touched if its ends are not the points of its ports any more");
        int[][] moves = {{1, 0}, {-1, 0}, {0, 1}, {0, -1}};
        for (int box = 0; box < 2; box++) {
            for (int[] m : moves) {
                ConnectorRouter x = Checks.busy();
                Checks.due("connector(0, 11)", x.connector(0, 11), 0);
                Checks.due("moveBox of a port", x.moveBox(box, m[0], m[1]), box == 0 ? 3 : 1);
                Checks.due("connector(0, 11)", x.connector(0, 11), 1);
                Checks.due("moveBox back", x.moveBox(box, -m[0], -m[1]), 0);
                Checks.due("connector(0, 11)", x.connector(0, 11), 0);
            }
        }
        // Both ends move by the same, along their route.
        ConnectorRouter y = Checks.withBox(10, 10, 20, 20);
        y.link(0, 0, 2, 0, 0, 8);
        y.route(0);
        Checks.due("moveBox along the route", y.moveBox(0, 1, 0), 1);
        Checks.due("moveBox back", y.moveBox(0, -1, 0), 0);
        Checks.sentence("A connector without a route is touched as well");
        ConnectorRouter z = Checks.busy();
        Checks.due("connector(2, 11)", z.connector(2, 11), 1);
        Checks.due("count(3)", z.count(3), 1);
        Checks.due("moveBox does not count it", z.moveBox(1, 0, 0), 0);
    }

    private static void touchedPoints() {
        Checks.sentence("or if one of its points, other than its two ends, is blocked by a box");
        // The route goes from (20, 15) to (40, 15). A box of 2 by 2 comes near from each side.
        int[][] places = {{29, 12, 0}, {29, 13, 1}, {29, 14, 1}, {29, 15, 1}, {29, 16, 0},
            {22, 13, 1}, {36, 13, 1}, {22, 15, 1}, {36, 15, 1}, {22, 16, 0}, {36, 12, 0}};
        for (int[] p : places) {
            ConnectorRouter x = Checks.withBox(10, 10, 20, 20);
            x.addBox(40, 10, 50, 20);
            x.link(0, 1, 5, 1, 3, 5);
            x.route(0);
            Checks.due("addBox at " + p[0] + ", " + p[1], x.addBox(p[0], p[1], p[0] + 2, p[1] + 2), 2);
            Checks.due("connector(0, 11)", x.connector(0, 11), p[2]);
            Checks.due("count(3)", x.count(3), p[2]);
            Checks.due("moveBox by 0", x.moveBox(2, 0, 0), p[2]);
            Checks.due("reroute()", x.reroute(), p[2]);
            Checks.due("connector(0, 11) then", x.connector(0, 11), 0);
        }
        // The same for a route that runs up, from (15, 40) to (15, 20).
        int[][] beside = {{12, 29, 0}, {13, 29, 1}, {15, 29, 1}, {16, 29, 0}, {13, 22, 1}, {15, 36, 1}, {16, 36, 0}};
        for (int[] p : beside) {
            ConnectorRouter x = Checks.withBox(10, 10, 20, 20);
            x.addBox(10, 40, 20, 50);
            x.link(1, 0, 5, 0, 2, 5);
            x.route(0);
            x.addBox(p[0], p[1], p[0] + 2, p[1] + 2);
            Checks.due("connector(0, 11), box at " + p[0] + ", " + p[1], x.connector(0, 11), p[2]);
        }
    }

    private static void touchedCorner() {
        Checks.sentence("or if one of its points, other than its two ends, is blocked by a box (a corner)");
        // M14,12H29V32H30 has its corners at (29, 12) and (29, 32), the first one far from both boxes.
        int[][] places = {{29, 10, 1}, {27, 10, 1}, {30, 10, 0}, {29, 9, 0}, {27, 13, 1}, {30, 13, 0}, {26, 13, 0}};
        for (int[] p : places) {
            ConnectorRouter x = Checks.withBox(10, 10, 14, 14);
            x.addBox(30, 30, 34, 34);
            x.link(0, 1, 2, 1, 3, 2);
            x.route(0);
            x.addBox(p[0], p[1], p[0] + 2, p[1] + 2);
            Checks.due("connector(0, 11), box at " + p[0] + ", " + p[1], x.connector(0, 11), p[2]);
        }
        // An end that another box blocks is still an end: the ports decide.
        ConnectorRouter y = Checks.withBox(10, 10, 20, 20);
        y.addBox(22, 10, 30, 20);
        y.link(0, 1, 5, 1, 3, 5);
        y.route(0);
        Checks.due("the ends are blocked by their own boxes", y.connector(0, 11), 0);
        y.moveBox(0, 0, 40);
        Checks.due("one end has lost its port", y.connector(0, 11), 1);
    }

    private static void touchedCornerOfEachKind() {
        Checks.sentence("or if one of its points is blocked by a box (a corner alone, to whatever side it turns)");
        // From a box in the middle to the right or left, then down or up to a second box.
        String[] routes = {"M44,42H62V60", "M44,42H62V24", "M40,42H22V60", "M40,42H22V24"};
        String[] back = {"M62,60V42H44", "M62,24V42H44", "M22,60V42H40", "M22,24V42H40"};
        for (int kind = 0; kind < 8; kind++) {
            int k = kind % 4;
            boolean isRight = k < 2;
            boolean isDown = k % 2 == 0;
            // The box of 2 by 2 that blocks the corner and no other point of the route; then it is 1 farther.
            int left = isRight ? 62 : 20;
            int top = isDown ? 40 : 42;
            for (int away = 0; away < 3; away++) {
                ConnectorRouter x = Checks.withBox(40, 40, 44, 44);
                x.addBox(isRight ? 60 : 20, isDown ? 60 : 20, isRight ? 64 : 24, isDown ? 64 : 24);
                int side = isRight ? 1 : 3;
                int toSide = isDown ? 0 : 2;
                Checks.due("link", kind < 4 ? x.link(0, side, 2, 1, toSide, 2) : x.link(1, toSide, 2, 0, side, 2), 0);
                x.route(0);
                Checks.dueRoute(x, 0, kind < 4 ? routes[k] : back[k]);
                int atX = left + (away == 1 ? isRight ? 1 : -1 : 0);
                int atY = top + (away == 2 ? isDown ? -1 : 1 : 0);
                Checks.due("addBox", x.addBox(atX, atY, atX + 2, atY + 2), 2);
                Checks.due("connector(0, 11), kind " + kind + ", away " + away, x.connector(0, 11), away == 0 ? 1 : 0);
                Checks.due("reroute(), kind " + kind + ", away " + away, x.reroute(), away == 0 ? 1 : 0);
            }
        }
    }

    // ---- crossings, shared parts

    /** Joins a new box above to a new box below by a vertical route from (x, 14) to (x, 70). */
    private static int upright(ConnectorRouter r, int x) {
        return join(r, r.addBox(x - 2, 10, x + 2, 14), 2, r.addBox(x - 2, 70, x + 2, 74), 0);
    }

    /** Joins two new boxes by a horizontal route from (left, y) to (right, y). */
    private static int level(ConnectorRouter r, int left, int right, int y) {
        return join(r, r.addBox(left - 4, y - 2, left, y + 2), 1, r.addBox(right, y - 2, right + 4, y + 2), 3);
    }

    private static int join(ConnectorRouter r, int box, int side, int toBox, int toSide) {
        int connector = r.link(box, side, 2, toBox, toSide, 2);
        r.route(connector);
        Checks.due("a straight route", r.measure(connector, 3), 1);
        return connector;
    }

    private static void crossingAtEnds() {
        Checks.sentence("inside a horizontal segment of one of them and inside a vertical segment of the other one");
        int[][] columns = {{13, 0}, {14, 0}, {15, 1}, {16, 1}, {58, 1}, {59, 1}, {60, 0}, {61, 0}};
        for (int[] c : columns) {
            ConnectorRouter x = new ConnectorRouter();
            upright(x, c[0]);
            level(x, 14, 60, 42);
            Checks.due("crossings(0, 1) at x = " + c[0], x.crossings(0, 1), c[1]);
            Checks.due("crossings(1, 0) at x = " + c[0], x.crossings(1, 0), c[1]);
            Checks.due("count(5) at x = " + c[0], x.count(5), c[1]);
            Checks.due("shared(0, 1) at x = " + c[0], x.shared(0, 1), 0);
        }
        int[][] rows = {{13, 0}, {14, 0}, {15, 1}, {16, 1}, {68, 1}, {69, 1}, {70, 0}, {71, 0}};
        for (int[] r : rows) {
            ConnectorRouter x = new ConnectorRouter();
            level(x, 14, 60, r[0]);
            upright(x, 37);
            Checks.due("crossings(0, 1) at y = " + r[0], x.crossings(0, 1), r[1]);
            Checks.due("crossings(1, 0) at y = " + r[0], x.crossings(1, 0), r[1]);
        }
    }

    private static void crossingAtCorners() {
        Checks.sentence("(not at the ends of the segments)");
        ConnectorRouter x = new ConnectorRouter();
        level(x, 14, 60, 42);
        int above = x.addBox(35, 10, 39, 14);
        int below = x.addBox(35, 70, 39, 74);
        int[] answers = {0, 0, 1, 1};
        String[] routes = {"M39,14V41H60", "M39,14V42H60", "M39,14V43H60", "M39,14V44H60"};
        for (int i = 0; i < 4; i++) {
            int c = x.link(above, 2, 4, 1, 3, 1 + i);
            x.route(c);
            Checks.dueRoute(x, c, routes[i]);
            Checks.due("crossings(0, " + c + ")", x.crossings(0, c), answers[i]);
            Checks.due("crossings(" + c + ", 0)", x.crossings(c, 0), answers[i]);
        }
        // Two routes that turn at the same point.
        int c = x.link(below, 0, 4, 1, 3, 2);
        x.route(c);
        Checks.dueRoute(x, c, "M39,70V42H60");
        Checks.due("crossings at a common corner", x.crossings(2, c), 0);
        Checks.due("crossings of a route with itself", x.crossings(3, 3), 0);
    }

    private static void sharedLength() {
        Checks.sentence("the sum of the lengths that segments of the same direction on the same line have in common");
        int[][] parts = {{60, 70, 0}, {61, 70, 0}, {59, 70, 1}, {58, 70, 2}, {8, 14, 0}, {8, 13, 0}, {8, 15, 1},
            {20, 30, 10}, {20, 22, 2}, {8, 80, 46}, {14, 60, 46}, {15, 59, 44}, {13, 61, 46}};
        for (int[] p : parts) {
            ConnectorRouter x = new ConnectorRouter();
            level(x, 14, 60, 42);
            x.moveBox(0, 0, 40);
            x.moveBox(1, 0, 40);
            level(x, p[0], p[1], 42);
            Checks.due("shared(0, 1), " + p[0] + " to " + p[1], x.shared(0, 1), p[2]);
            Checks.due("shared(1, 0), " + p[0] + " to " + p[1], x.shared(1, 0), p[2]);
            Checks.due("crossings(0, 1)", x.crossings(0, 1), 0);
        }
        for (int y = 41; y <= 43; y++) {
            ConnectorRouter x = new ConnectorRouter();
            level(x, 14, 60, 42);
            x.moveBox(0, 0, 40);
            x.moveBox(1, 0, 40);
            level(x, 14, 60, y);
            Checks.due("shared(0, 1) on the line " + y, x.shared(0, 1), y == 42 ? 46 : 0);
        }
    }

    private static void sharedOfSeveral() {
        Checks.sentence("their shared length is the sum of the lengths");
        ConnectorRouter x = Checks.withBox(10, 10, 14, 14);
        x.addBox(30, 30, 34, 34);
        x.link(0, 1, 2, 1, 3, 2);
        x.link(1, 3, 2, 0, 1, 2);
        x.link(0, 1, 2, 1, 3, 3);
        x.routeAll();
        Checks.due("shared with the same route, the other way round", x.shared(0, 1), 36);
        Checks.due("shared with a route that goes on", x.shared(0, 2), 15 + 20);
        Checks.due("shared with itself", x.shared(2, 2), 37);
    }

    // ---- lanes

    private static void innerSegments() {
        Checks.sentence("The inner segments of a route are all of its segments, without the first and the last one");
        ConnectorRouter x = Checks.withBox(10, 10, 20, 20);
        x.addBox(60, 10, 70, 20);
        x.addBox(60, 60, 70, 70);
        x.link(0, 1, 5, 1, 3, 5);
        x.link(0, 2, 5, 2, 3, 5);
        x.link(0, 0, 5, 1, 0, 5);
        x.link(0, 1, 5, 1, 1, 5);
        x.routeAll();
        int[] segments = {1, 2, 3, 5};
        for (int i = 0; i < segments.length; i++) {
            Checks.due("measure(" + i + ", 3)", x.measure(i, 3), segments[i]);
            for (int j = -1; j <= segments[i]; j++) {
                boolean isInner = j >= 1 && j <= segments[i] - 2;
                Checks.due("lane(" + i + ", " + j + ", 1)", Math.min(x.lane(i, j, 1), 0), isInner ? 0 : BAD_INDEX);
            }
        }
    }

    /**
     * Boxes on the left, which end at x = 14 but for the third (12) and the fourth (28), and on the right,
     * which begin at x = 30: routes from the left to the right go down on the line x = 29.
     */
    private static ConnectorRouter columns() {
        ConnectorRouter x = Checks.withBox(10, 10, 14, 30);
        x.addBox(10, 40, 14, 58);
        x.addBox(8, 62, 12, 70);
        x.addBox(24, 80, 28, 90);
        x.addBox(30, 40, 34, 60);
        x.addBox(30, 62, 34, 97);
        return x;
    }

    /** Routes a connector from a left box to a right box so that it runs on x = 29 from y to toY. */
    private static int down(ConnectorRouter x, int box, int y, int toBox, int toY) {
        int c = x.link(box, 1, y - x.box(box, 1), toBox, 3, toY - x.box(toBox, 1));
        x.route(c);
        Checks.due("corner(" + c + ", 1, 0)", x.corner(c, 1, 0), 29);
        Checks.due("corner(" + c + ", 1, 1)", x.corner(c, 1, 1), y);
        Checks.due("corner(" + c + ", 2, 1)", x.corner(c, 2, 1), toY);
        return c;
    }

    private static void dueLanes(ConnectorRouter x, int[] lanes, int[] lanesOfBundles) {
        for (int i = 0; i < lanes.length; i++) {
            Checks.due("lane(" + i + ", 1, 1)", x.lane(i, 1, 1), lanes[i]);
            Checks.due("lane(" + i + ", 1, 2)", x.lane(i, 1, 2), lanesOfBundles[i]);
            int place = 580 + (2 * lanes[i] - (lanesOfBundles[i] - 1)) * 4;
            Checks.due("lane(" + i + ", 1, 3)", x.lane(i, 1, 3), place);
        }
    }

    private static void collisions() {
        Checks.sentence("collide if they have a common length above 0");
        int[] starts = {50, 49, 48, 47, 46};
        for (int start : starts) {
            ConnectorRouter x = columns();
            down(x, 0, 10, 4, 48);
            down(x, 1, start, 5, 70);
            boolean collide = start < 48;
            dueLanes(x, new int[] {0, collide ? 1 : 0}, collide ? new int[] {2, 2} : new int[] {1, 1});
        }
        Checks.sentence("both are horizontal and have the same y, or both are vertical and have the same x");
        // Two routes along the tops of their boxes: on the same line, or 1 apart.
        for (int shift = 0; shift < 2; shift++) {
            ConnectorRouter x = Checks.withBox(10, 10, 20, 20);
            x.addBox(30, 10 + shift, 40, 20);
            x.link(0, 0, 0, 0, 0, 10);
            x.link(1, 0, 0, 1, 0, 10);
            x.route(0);
            x.moveBox(0, 0, 30);
            x.moveBox(1, -15, 0);
            x.route(1);
            Checks.dueRoute(x, 1, shift == 0 ? "M15,10V9H25V10" : "M15,11V10H25V11");
            Checks.due("lane(0, 1, 2)", x.lane(0, 1, 2), 2 - shift);
            Checks.due("lane(1, 1, 2)", x.lane(1, 1, 2), 2 - shift);
            Checks.due("lane(1, 1, 1)", x.lane(1, 1, 1), 1 - shift);
        }
    }

    private static void collisionsOfInnerOnes() {
        Checks.sentence("Two inner segments collide (a first or last segment is none, a crossing one neither)");
        // Each route's first segment lies on the other one's inner segment.
        ConnectorRouter x = Checks.withBox(10, 10, 20, 20);
        x.link(0, 0, 0, 0, 0, 10);
        x.route(0);
        Checks.dueRoute(x, 0, "M10,10V9H20V10");
        x.moveBox(0, 0, 30);
        level(x, 12, 18, 9);
        Checks.due("shared(0, 1)", x.shared(0, 1), 6);
        Checks.due("lane(0, 1, 2) with a first and last segment on it", x.lane(0, 1, 2), 1);
        // Routes with a corner, which begin or end on the line of the inner segment.
        int low = x.addBox(40, 20, 44, 24);
        for (int i = 0; i < 2; i++) {
            int c = i == 0 ? x.link(1, 1, 2, low, 0, 2) : x.link(low, 0, 2, 1, 1, 2);
            x.moveBox(2, 50, 50);
            x.route(c);
            Checks.dueRoute(x, c, i == 0 ? "M12,9H42V20" : "M42,20V9H12");
            x.moveBox(2, -50, -50);
            Checks.due("shared(0, " + c + ")", x.shared(0, c), 8);
            Checks.due("lane(0, 1, 2) with a first or last segment on it", x.lane(0, 1, 2), 1);
            Checks.due("lane(0, 1, 3) with a first or last segment on it", x.lane(0, 1, 3), 180);
        }
        // Horizontal segments with y = 9 and vertical ones with x = 9: two bundles, not one of four.
        ConnectorRouter y = Checks.withBox(10, 10, 20, 20);
        y.link(0, 0, 0, 0, 3, 0);
        y.link(0, 3, 5, 0, 0, 5);
        y.routeAll();
        Checks.dueRoute(y, 0, "M10,10V9H9V10H10");
        Checks.dueRoute(y, 1, "M10,15H9V9H15V10");
        for (int i = 0; i < 4; i++) {
            Checks.due("lane(" + i / 2 + ", " + (1 + i % 2) + ", 2)", y.lane(i / 2, 1 + i % 2, 2), 2);
        }
    }

    private static void bundleByReach() {
        Checks.sentence("A bundle is a set in which any two can be reached from one another by collisions");
        ConnectorRouter x = columns();
        down(x, 0, 10, 4, 48);
        down(x, 1, 47, 5, 70);
        down(x, 1, 50, 5, 90);
        dueLanes(x, new int[] {0, 1, 2}, new int[] {3, 3, 3});
        Checks.sentence("it gets the lane 0, if it collides with none that was gone through before");
        ConnectorRouter y = columns();
        down(y, 0, 10, 4, 48);
        down(y, 1, 50, 5, 90);
        dueLanes(y, new int[] {0, 0}, new int[] {1, 1});
        down(y, 1, 47, 5, 70);
        dueLanes(y, new int[] {0, 0, 1}, new int[] {2, 2, 2});
        Checks.sentence("otherwise 1 plus the greatest lane of those gone through before with which it collides");
        ConnectorRouter z = columns();
        down(z, 0, 10, 4, 60);
        down(z, 1, 40, 5, 62);
        down(z, 1, 58, 5, 63);
        down(z, 0, 10, 4, 41);
        dueLanes(z, new int[] {0, 1, 2, 2}, new int[] {3, 3, 3, 3});
    }

    private static void bundlesOfOneLine() {
        Checks.sentence("A bundle is a set of inner segments, as large as possible (but no larger)");
        // Three segments above, and two below that begin where the lowest of them ends.
        ConnectorRouter x = columns();
        down(x, 0, 10, 4, 48);
        down(x, 0, 20, 4, 44);
        down(x, 1, 48, 5, 70);
        down(x, 0, 30, 4, 40);
        down(x, 1, 50, 5, 80);
        dueLanes(x, new int[] {0, 1, 0, 2, 1}, new int[] {3, 3, 2, 3, 2});
        // Asked for in the other order.
        for (int i = 4; i >= 0; i--) {
            Checks.due("lane(" + i + ", 1, 2)", x.lane(i, 1, 2), i == 2 || i == 4 ? 2 : 3);
        }
        // One more joins both.
        down(x, 1, 47, 5, 75);
        dueLanes(x, new int[] {0, 1, 0, 2, 1, 2}, new int[] {3, 3, 3, 3, 3, 3});
    }

    private static void bundlesOneByOne() {
        Checks.sentence("A bundle is a set of inner segments (and is made anew for each call)");
        // Four long routes on top of the box, and below it a short one apart from two others.
        ConnectorRouter x = Checks.withBox(10, 10, 40, 20);
        for (int i = 0; i < 4; i++) {
            x.link(0, 0, i, 0, 0, 30 - i);
        }
        x.link(0, 2, 0, 0, 2, 5);
        x.link(0, 2, 10, 0, 2, 20);
        x.link(0, 2, 12, 0, 2, 18);
        x.routeAll();
        int[] lanes = {0, 1, 2, 3, 0, 0, 1};
        int[] lanesOfBundles = {4, 4, 4, 4, 1, 2, 2};
        for (int above = 0; above < 4; above++) {
            for (int below = 4; below < 7; below++) {
                Checks.due("lane(" + above + ", 1, 2)", x.lane(above, 1, 2), lanesOfBundles[above]);
                Checks.due("lane(" + below + ", 1, 2)", x.lane(below, 1, 2), lanesOfBundles[below]);
                Checks.due("lane(" + above + ", 1, 1)", x.lane(above, 1, 1), lanes[above]);
                Checks.due("lane(" + below + ", 1, 1)", x.lane(below, 1, 1), lanes[below]);
            }
        }
        x.drop(0);
        Checks.due("lane(0, 1, 2) with one less", x.lane(0, 1, 2), 3);
        Checks.due("lane(3, 1, 2) below", x.lane(3, 1, 2), 1);
    }

    private static void bundlesOfFortySegments() {
        Checks.sentence("A bundle is a set of inner segments of all routes (forty of them on one line)");
        // Boxes that reach down to the line y = 20, and between them boxes that must be passed above it.
        ConnectorRouter x = new ConnectorRouter();
        for (int i = 0; i < 7; i++) {
            boolean isAbove = i % 2 == 0;
            Checks.due("addBox", x.addBox(2 + 10 * i + (isAbove ? 0 : 2), isAbove ? 2 : 15,
                2 + 10 * i + (isAbove ? 8 : 6), isAbove ? 19 : 40), i);
        }
        x.setPenalty(0);
        for (int i = 0; i < 10; i++) {
            x.link(0, 2, 5, 6, 2, 5);
        }
        Checks.due("routeAll()", x.routeAll(), 10);
        Checks.dueRoute(x, 9, "M7,19V20H11V14H21V20H31V14H41V20H51V14H61V20H67V19");
        int[] pulls = {19 + 14 - 40, 14 + 14 - 40, 14 + 14 - 40, 14 + 19 - 40};
        for (int i = 0; i < 10; i++) {
            for (int part = 0; part < 4; part++) {
                int segment = 1 + 4 * part;
                Checks.due("pull of " + i + ", " + segment, x.lane(i, segment, 0), pulls[part]);
                Checks.due("lane of " + i + ", " + segment, x.lane(i, segment, 1), i);
                Checks.due("lanes of " + i + ", " + segment, x.lane(i, segment, 2), 10);
                Checks.due("place of " + i + ", " + segment, x.lane(i, segment, 3), 400 + (2 * i - 9) * 4);
            }
        }
    }

    private static void pulls() {
        Checks.sentence("The segments of a bundle are gone through by ascending pulls");
        ConnectorRouter x = columns();
        down(x, 3, 88, 5, 65);
        down(x, 1, 50, 5, 80);
        down(x, 2, 64, 5, 90);
        int[] pulls = {28 + 30 - 58, 14 + 30 - 58, 12 + 30 - 58};
        for (int i = 0; i < 3; i++) {
            Checks.due("lane(" + i + ", 1, 0)", x.lane(i, 1, 0), pulls[i]);
        }
        dueLanes(x, new int[] {2, 1, 0}, new int[] {3, 3, 3});
        // The first and the last one are reached from one another by the second one alone.
        ConnectorRouter w = columns();
        down(w, 3, 88, 5, 70);
        down(w, 1, 50, 5, 80);
        down(w, 2, 62, 5, 66);
        dueLanes(w, new int[] {2, 1, 0}, new int[] {3, 3, 3});
        // A pull above 0: both neighbours lie to the right of the line.
        ConnectorRouter y = Checks.withBox(40, 10, 50, 20);
        y.addBox(30, 40, 36, 60);
        y.addBox(10, 10, 28, 20);
        y.link(0, 3, 5, 1, 3, 5);
        y.link(2, 1, 5, 1, 3, 6);
        y.routeAll();
        Checks.dueRoute(y, 0, "M40,15H29V45H30");
        Checks.dueRoute(y, 1, "M28,15H29V46H30");
        Checks.due("a pull above 0", y.lane(0, 1, 0), 40 + 30 - 58);
        Checks.due("a pull of 0", y.lane(1, 1, 0), 0);
        dueLanes(y, new int[] {1, 0}, new int[] {2, 2});
    }

    private static void equalPulls() {
        Checks.sentence("those with equal pulls by their connectors");
        ConnectorRouter x = columns();
        down(x, 1, 50, 5, 80);
        down(x, 0, 10, 5, 97);
        down(x, 1, 40, 5, 70);
        dueLanes(x, new int[] {0, 1, 2}, new int[] {3, 3, 3});
        // Their numbers change when one before them is dropped, and with them the order stays.
        x.drop(0);
        dueLanes(x, new int[] {0, 1}, new int[] {2, 2});
    }

    private static void equalPullsOfOneRoute() {
        Checks.sentence("Two inner segments (of different routes, or of the same one); equal pulls by their numbers");
        // Around the box in the middle, a route without penalty leaves the line y = 20 and comes back to it.
        ConnectorRouter x = Checks.withBox(10, 10, 14, 19);
        x.addBox(40, 10, 44, 19);
        x.addBox(25, 15, 29, 25);
        x.setPenalty(0);
        x.link(0, 2, 2, 1, 2, 2);
        x.route(0);
        Checks.dueRoute(x, 0, "M12,19V20H15V14H39V20H42V19");
        Checks.due("lane(0, 1, 2)", x.lane(0, 1, 2), 1);
        Checks.due("lane(0, 5, 2)", x.lane(0, 5, 2), 1);
        // A second route goes straight on, and by it each of the two is reached from the other.
        x.moveBox(2, 0, 40);
        x.link(0, 2, 2, 1, 2, 2);
        x.route(1);
        Checks.dueRoute(x, 1, "M12,19V20H42V19");
        int[][] segments = {{0, 1, 19 + 14 - 40, 0}, {0, 5, 14 + 19 - 40, 0}, {1, 1, 19 + 19 - 40, 1}};
        for (int[] s : segments) {
            Checks.due("pull of " + s[0] + ", " + s[1], x.lane(s[0], s[1], 0), s[2]);
            Checks.due("lane of " + s[0] + ", " + s[1], x.lane(s[0], s[1], 1), s[3]);
            Checks.due("lanes of " + s[0] + ", " + s[1], x.lane(s[0], s[1], 2), 2);
            Checks.due("place of " + s[0] + ", " + s[1], x.lane(s[0], s[1], 3), 400 + (2 * s[3] - 1) * 4);
        }
        Checks.due("lanes of the part that is elsewhere", x.lane(0, 3, 2), 1);
    }

    private static void places() {
        Checks.sentence("The place of a segment is 20 * (its y, or x) + (2 * lane - (lanes - 1)) * 4");
        ConnectorRouter x = columns();
        for (int i = 0; i < 10; i++) {
            down(x, 0, 10 + i, 4, 40 + i);
        }
        for (int i = 0; i < 10; i++) {
            Checks.due("lane(" + i + ", 1, 1)", x.lane(i, 1, 1), i);
            Checks.due("lane(" + i + ", 1, 2)", x.lane(i, 1, 2), 10);
            Checks.due("lane(" + i + ", 1, 3)", x.lane(i, 1, 3), 580 + (2 * i - 9) * 4);
        }
        // At the rim of the canvas the places are still near their line.
        ConnectorRouter y = Checks.withBox(2, 2, 97, 97);
        y.link(0, 0, 0, 0, 0, 95);
        y.link(0, 2, 0, 0, 2, 95);
        y.routeAll();
        Checks.due("the place on the line 1", y.lane(0, 1, 3), 20);
        Checks.due("the place on the line 98", y.lane(1, 1, 3), 1960);
    }
}
