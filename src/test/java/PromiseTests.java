/** For each promise of the document: ordinary inputs, the edges that it names, and wrong inputs. */
public final class PromiseTests {
    private static final int NONE = -1000, BAD_INDEX = -1001, BAD_VALUE = -1002, BAD_STATE = -1003, FULL = -1004;
    private static final int LEAST = Integer.MIN_VALUE, GREATEST = Integer.MAX_VALUE;

    private static int wrong = 0;
    private static int promise = 0;

    public static void main(String[] args) {
        newObject();
        addBox();
        addBoxFull();
        moveBox();
        moveBoxTouches();
        box();
        blocker();
        link();
        linkFull();
        drop();
        setPenalty();
        count();
        connector();
        route();
        routeTies();
        routeEnds();
        routeAll();
        reroute();
        refresh();
        best();
        measure();
        corner();
        isOn();
        crossings();
        shared();
        lane();
        laneOfSeveral();
        write();
        written();
        type();
        clearText();
        textFault();
        run();
        runStops();
        undo();
        digest();
        System.out.println(wrong == 0 ? "all promises are kept" : wrong + " answers are not as due");
        if (wrong != 0) {
            System.exit(1);
        }
    }

    private static void due(String call, long got, long want) {
        if (got != want) {
            wrong++;
            System.out.println("promise " + promise + ": " + call + " answered " + got + ", due is " + want);
        }
    }

    /** Types a text in place of the one before. */
    private static void say(ConnectorRouter x, String text) {
        x.clearText();
        for (int i = 0; i < text.length(); i++) {
            x.type(text.charAt(i));
        }
    }

    private static String writing(ConnectorRouter x, int connector) {
        int length = x.write(connector);
        StringBuilder found = new StringBuilder();
        for (int i = 0; i < length; i++) {
            found.append((char) x.written(i));
        }
        return found.toString();
    }

    private static void dueRoute(ConnectorRouter x, int connector, String want) {
        String got = writing(x, connector);
        if (!got.equals(want)) {
            wrong++;
            System.out.println("promise " + promise + ": the route is " + got + ", due is " + want);
        }
    }

    /** Two boxes side by side, whose middles are joined by a straight connector. */
    private static ConnectorRouter pair() {
        ConnectorRouter x = new ConnectorRouter();
        x.addBox(10, 10, 20, 20);
        x.addBox(40, 10, 50, 20);
        x.link(0, 1, 5, 1, 3, 5);
        return x;
    }

    /** Two boxes of which the second lies to the right and below. */
    private static ConnectorRouter slant() {
        ConnectorRouter x = new ConnectorRouter();
        x.addBox(10, 10, 14, 14);
        x.addBox(30, 30, 34, 34);
        return x;
    }

    private static void newObject() {
        promise = 1;
        ConnectorRouter x = new ConnectorRouter();
        int[] counts = {0, 0, 10, 0, 0, 0};
        for (int i = 0; i < counts.length; i++) {
            due("count(" + i + ")", x.count(i), counts[i]);
        }
        due("textFault()", x.textFault(), 0);
        due("clearText()", x.clearText(), 0);
        due("written(0)", x.written(0), BAD_INDEX);
        due("undo()", x.undo(), BAD_STATE);
        due("box(0, 0)", x.box(0, 0), BAD_INDEX);
        due("connector(0, 0)", x.connector(0, 0), BAD_INDEX);
        due("blocker(50, 50)", x.blocker(50, 50), NONE);
        due("digest()", x.digest(), ((19L * 31 + 0) * 31 + 10) * 31 + 0);
    }

    private static void addBox() {
        promise = 2;
        ConnectorRouter x = new ConnectorRouter();
        int[][] bad = {{1, 2, 3, 4}, {2, 1, 3, 4}, {5, 5, 5, 9}, {5, 5, 9, 5}, {5, 5, 4, 9}, {5, 5, 9, 4},
            {5, 5, 98, 9}, {5, 5, 9, 98}, {LEAST, 5, 9, 9}, {5, 5, GREATEST, 9}, {5, LEAST, 9, GREATEST},
            {GREATEST, GREATEST, LEAST, LEAST}};
        for (int[] b : bad) {
            due("addBox of bad values", x.addBox(b[0], b[1], b[2], b[3]), BAD_VALUE);
        }
        due("undo() after errors", x.undo(), BAD_STATE);
        due("addBox(2, 2, 97, 97)", x.addBox(2, 2, 97, 97), 0);
        due("addBox inside", x.addBox(40, 40, 50, 50), BAD_STATE);
        due("undo()", x.undo(), 0);
        due("count(0)", x.count(0), 0);
        due("addBox(20, 20, 30, 30)", x.addBox(20, 20, 30, 30), 0);
        due("gap 1 right", x.addBox(31, 20, 40, 30), BAD_STATE);
        due("gap 1 below", x.addBox(20, 31, 30, 40), BAD_STATE);
        due("gap 1 left", x.addBox(10, 20, 19, 30), BAD_STATE);
        due("gap 1 above", x.addBox(20, 10, 30, 19), BAD_STATE);
        due("gap 1 at the corner", x.addBox(31, 31, 40, 40), BAD_STATE);
        due("gap 2 right", x.addBox(32, 20, 40, 30), 1);
        due("gap 2 below", x.addBox(20, 32, 30, 40), 2);
        due("gap 2 left", x.addBox(10, 20, 18, 30), 3);
        due("gap 2 above", x.addBox(20, 10, 30, 18), 4);
        due("gap 2 in x alone", x.addBox(32, 32, 40, 40), 5);
        due("box(5, 0)", x.box(5, 0), 32);
        due("box(3, 2)", x.box(3, 2), 18);
    }

    private static void addBoxFull() {
        promise = 2;
        ConnectorRouter x = new ConnectorRouter();
        for (int i = 0; i < 8; i++) {
            due("addBox", x.addBox(2 + 10 * i, 5, 8 + 10 * i, 9), i);
        }
        due("a ninth", x.addBox(2, 20, 8, 30), FULL);
        due("a ninth too near", x.addBox(2, 10, 8, 30), BAD_STATE);
        due("a ninth too near and bad", x.addBox(1, 10, 8, 30), BAD_VALUE);
        due("count(0)", x.count(0), 8);
        for (int i = 3; i >= 0; i--) {
            due("undo()", x.undo(), i);
        }
        due("count(0)", x.count(0), 4);
        due("undo()", x.undo(), BAD_STATE);
    }

    private static void moveBox() {
        promise = 3;
        ConnectorRouter x = new ConnectorRouter();
        x.addBox(10, 10, 20, 20);
        x.addBox(40, 10, 50, 20);
        due("moveBox(2, 0, 0)", x.moveBox(2, 0, 0), BAD_INDEX);
        due("moveBox(-1, 200, 0)", x.moveBox(-1, 200, 0), BAD_INDEX);
        due("moveBox(0, 100, 0)", x.moveBox(0, 100, 0), BAD_VALUE);
        due("moveBox(0, 0, -100)", x.moveBox(0, 0, -100), BAD_VALUE);
        due("moveBox(0, least, greatest)", x.moveBox(0, LEAST, GREATEST), BAD_VALUE);
        due("moveBox(0, -9, 0)", x.moveBox(0, -9, 0), BAD_VALUE);
        due("moveBox(0, 0, 78)", x.moveBox(0, 0, 78), BAD_VALUE);
        due("moveBox(0, 19, 0)", x.moveBox(0, 19, 0), BAD_STATE);
        due("moveBox(0, 18, 0)", x.moveBox(0, 18, 0), 0);
        due("box(0, 0)", x.box(0, 0), 28);
        due("box(0, 2)", x.box(0, 2), 38);
        due("moveBox(0, -26, -8)", x.moveBox(0, -26, -8), 0);
        due("box(0, 0)", x.box(0, 0), 2);
        due("box(0, 1)", x.box(0, 1), 2);
        due("moveBox(0, 85, 85)", x.moveBox(0, 85, 85), 0);
        due("box(0, 3)", x.box(0, 3), 97);
        due("moveBox(0, 0, 0)", x.moveBox(0, 0, 0), 0);
        due("undo() of a move by 0", x.undo(), 3);
        due("box(0, 3)", x.box(0, 3), 97);
        due("undo()", x.undo(), 2);
        due("box(0, 3)", x.box(0, 3), 12);
    }

    private static void moveBoxTouches() {
        promise = 3;
        ConnectorRouter x = pair();
        x.addBox(28, 30, 32, 34);
        x.link(2, 0, 0, 2, 2, 0);
        due("route(0)", x.route(0), 20);
        due("moveBox beside the route", x.moveBox(2, 0, -20), 0);
        due("moveBox onto the route", x.moveBox(2, 0, 1), 1);
        due("moveBox off the route", x.moveBox(2, 0, 5), 0);
        due("moveBox of a port", x.moveBox(0, 0, 1), 1);
        due("connector(0, 7)", x.connector(0, 7), 16);
        due("corner(0, 0, 1)", x.corner(0, 0, 1), 15);
        due("moveBox of the port back", x.moveBox(0, 0, -1), 0);
        due("moveBox of the last port", x.moveBox(1, 1, 0), 1);
    }

    private static void box() {
        promise = 4;
        ConnectorRouter x = pair();
        x.addBox(60, 10, 70, 20);
        x.link(0, 0, 0, 0, 2, 0);
        int[] edges = {40, 10, 50, 20, 1};
        for (int i = 0; i < edges.length; i++) {
            due("box(1, " + i + ")", x.box(1, i), edges[i]);
        }
        due("box(0, 4)", x.box(0, 4), 2);
        due("box(2, 4)", x.box(2, 4), 0);
        due("box(3, 0)", x.box(3, 0), BAD_INDEX);
        due("box(-1, 0)", x.box(-1, 0), BAD_INDEX);
        due("box(3, 5)", x.box(3, 5), BAD_INDEX);
        due("box(0, 5)", x.box(0, 5), BAD_VALUE);
        due("box(0, -1)", x.box(0, -1), BAD_VALUE);
        due("box(greatest, 0)", x.box(GREATEST, 0), BAD_INDEX);
        due("box(0, least)", x.box(0, LEAST), BAD_VALUE);
    }

    private static void blocker() {
        promise = 5;
        ConnectorRouter x = pair();
        int[][] answers = {{10, 10, 0}, {20, 20, 0}, {15, 15, 0}, {9, 15, NONE}, {21, 15, NONE}, {15, 9, NONE},
            {15, 21, NONE}, {40, 20, 1}, {50, 10, 1}, {0, 0, NONE}, {99, 99, NONE}, {100, 0, BAD_VALUE},
            {0, 100, BAD_VALUE}, {-1, 15, BAD_VALUE}, {15, -1, BAD_VALUE}, {LEAST, GREATEST, BAD_VALUE}};
        for (int[] a : answers) {
            due("blocker(" + a[0] + ", " + a[1] + ")", x.blocker(a[0], a[1]), a[2]);
        }
    }

    private static void link() {
        promise = 6;
        ConnectorRouter x = new ConnectorRouter();
        x.addBox(10, 10, 20, 14);
        x.addBox(40, 10, 44, 20);
        due("link from no box", x.link(2, 0, 0, 0, 0, 0), BAD_INDEX);
        due("link to no box", x.link(0, 9, 0, -1, 0, 0), BAD_INDEX);
        due("link side 4", x.link(0, 4, 0, 1, 0, 0), BAD_VALUE);
        due("link side -1", x.link(0, 0, 0, 1, -1, 0), BAD_VALUE);
        due("link top too far", x.link(0, 0, 11, 1, 0, 0), BAD_VALUE);
        due("link right too far", x.link(0, 1, 5, 1, 0, 0), BAD_VALUE);
        due("link to bottom too far", x.link(0, 0, 0, 1, 2, 5), BAD_VALUE);
        due("link to left too far", x.link(0, 0, 0, 1, 3, 11), BAD_VALUE);
        due("link offset -1", x.link(0, 0, -1, 1, 0, 0), BAD_VALUE);
        due("link offset greatest", x.link(0, 0, 0, 1, 0, GREATEST), BAD_VALUE);
        due("link to itself", x.link(0, 2, 3, 0, 2, 3), BAD_STATE);
        due("undo() after errors", x.undo(), 1);
        x.addBox(40, 10, 44, 20);
        due("link top to its end", x.link(0, 0, 10, 1, 2, 4), 0);
        due("link right to its end", x.link(0, 1, 4, 1, 3, 10), 1);
        due("link at one box", x.link(0, 2, 3, 0, 2, 4), 2);
        due("link with one point twice", x.link(0, 0, 0, 0, 3, 0), 3);
        due("connector(3, 10)", x.connector(3, 10), 0);
        due("undo()", x.undo(), 3);
        due("count(1)", x.count(1), 3);
    }

    private static void linkFull() {
        promise = 6;
        ConnectorRouter x = pair();
        for (int i = 1; i < 10; i++) {
            due("link", x.link(0, 0, i, 1, 0, i), i);
        }
        due("an eleventh", x.link(0, 0, 0, 1, 0, 0), FULL);
        due("an eleventh with equal ports", x.link(0, 0, 0, 0, 0, 0), BAD_STATE);
        due("drop(0)", x.drop(0), 9);
        due("link", x.link(0, 0, 0, 1, 0, 0), 9);
    }

    private static void drop() {
        promise = 7;
        ConnectorRouter x = pair();
        x.link(0, 0, 1, 1, 0, 1);
        x.link(0, 2, 2, 1, 2, 2);
        x.routeAll();
        due("drop(3)", x.drop(3), BAD_INDEX);
        due("drop(-1)", x.drop(-1), BAD_INDEX);
        due("drop(1)", x.drop(1), 2);
        due("connector(1, 2)", x.connector(1, 2), 2);
        due("connector(1, 1)", x.connector(1, 1), 2);
        dueRoute(x, 1, "M12,20V21H42V20");
        due("connector(0, 1)", x.connector(0, 1), 1);
        due("connector(2, 0)", x.connector(2, 0), BAD_INDEX);
        due("drop(1)", x.drop(1), 1);
        due("drop(0)", x.drop(0), 0);
        due("drop(0)", x.drop(0), BAD_INDEX);
        due("undo()", x.undo(), 3);
        due("count(1)", x.count(1), 1);
        due("link has no route", x.link(0, 0, 3, 1, 0, 3), 1);
        due("connector(1, 10)", x.connector(1, 10), 0);
    }

    private static void setPenalty() {
        promise = 8;
        ConnectorRouter x = slant();
        x.link(0, 1, 2, 1, 3, 2);
        due("setPenalty(51)", x.setPenalty(51), BAD_VALUE);
        due("setPenalty(-1)", x.setPenalty(-1), BAD_VALUE);
        due("setPenalty(least)", x.setPenalty(LEAST), BAD_VALUE);
        due("setPenalty(50)", x.setPenalty(50), 10);
        due("best(0)", x.best(0), 136);
        due("setPenalty(0)", x.setPenalty(0), 50);
        due("best(0)", x.best(0), 36);
        due("setPenalty(0)", x.setPenalty(0), 0);
        due("undo()", x.undo(), 3);
        due("undo()", x.undo(), 2);
        due("count(2)", x.count(2), 50);
    }

    private static void count() {
        promise = 9;
        ConnectorRouter x = new ConnectorRouter();
        x.addBox(10, 40, 14, 44);
        x.addBox(60, 40, 64, 44);
        x.addBox(35, 10, 39, 14);
        x.addBox(35, 70, 39, 74);
        x.link(0, 1, 2, 1, 3, 2);
        x.link(2, 2, 2, 3, 0, 2);
        x.link(2, 0, 2, 3, 2, 2);
        x.route(0);
        x.route(1);
        int[] counts = {4, 3, 10, 1, 46 + 56, 1};
        for (int i = 0; i < counts.length; i++) {
            due("count(" + i + ")", x.count(i), counts[i]);
        }
        x.moveBox(1, 0, 1);
        due("count(3)", x.count(3), 2);
        due("count(6)", x.count(6), BAD_VALUE);
        due("count(-1)", x.count(-1), BAD_VALUE);
    }

    private static void connector() {
        promise = 10;
        ConnectorRouter x = new ConnectorRouter();
        x.addBox(10, 20, 15, 29);
        x.addBox(40, 50, 46, 58);
        x.link(0, 0, 1, 1, 1, 2);
        x.link(1, 2, 3, 0, 3, 4);
        int[] first = {0, 0, 1, 1, 1, 2, 11, 20, 46, 52, 0, 1};
        int[] second = {1, 2, 3, 0, 3, 4, 43, 58, 10, 24, 0, 1};
        for (int i = 0; i < first.length; i++) {
            due("connector(0, " + i + ")", x.connector(0, i), first[i]);
            due("connector(1, " + i + ")", x.connector(1, i), second[i]);
        }
        x.route(0);
        due("connector(0, 10)", x.connector(0, 10), 1);
        due("connector(0, 11)", x.connector(0, 11), 0);
        x.moveBox(0, 1, 2);
        due("connector(0, 6)", x.connector(0, 6), 12);
        due("connector(0, 7)", x.connector(0, 7), 22);
        due("connector(0, 11)", x.connector(0, 11), 1);
        due("connector(2, 0)", x.connector(2, 0), BAD_INDEX);
        due("connector(-1, 12)", x.connector(-1, 12), BAD_INDEX);
        due("connector(0, 12)", x.connector(0, 12), BAD_VALUE);
        due("connector(0, -1)", x.connector(0, -1), BAD_VALUE);
    }

    private static void route() {
        promise = 11;
        ConnectorRouter x = pair();
        due("route(1)", x.route(1), BAD_INDEX);
        due("route(-1)", x.route(-1), BAD_INDEX);
        due("route(0)", x.route(0), 20);
        dueRoute(x, 0, "M20,15H40");
        due("undo()", x.undo(), 3);
        due("connector(0, 10)", x.connector(0, 10), 0);
        x.addBox(28, 8, 32, 16);
        due("route(0) around a box", x.route(0), 2 + 22 + 40);
        dueRoute(x, 0, "M20,15H27V17H33V15H40");
        due("setPenalty(0)", x.setPenalty(0), 10);
        due("measure(0, 0) stays", x.measure(0, 0), 64);
        due("route(0) without penalty", x.route(0), 24);
    }

    private static void routeTies() {
        promise = 11;
        ConnectorRouter x = slant();
        x.link(0, 1, 2, 1, 3, 2);
        x.link(1, 3, 2, 0, 1, 2);
        x.link(0, 2, 2, 1, 0, 2);
        x.link(1, 0, 2, 0, 2, 2);
        due("route(0)", x.route(0), 56);
        dueRoute(x, 0, "M14,12H29V32H30");
        due("route(1)", x.route(1), 56);
        dueRoute(x, 1, "M30,32H29V12H14");
        due("route(2)", x.route(2), 56);
        dueRoute(x, 2, "M12,14V15H32V30");
        due("route(3)", x.route(3), 56);
        dueRoute(x, 3, "M32,30V15H12V14");
        x.setPenalty(0);
        due("route(1) without penalty", x.route(1), 36);
        dueRoute(x, 1, "M30,32H29V12H14");
    }

    private static void routeEnds() {
        promise = 11;
        ConnectorRouter x = new ConnectorRouter();
        x.addBox(10, 10, 20, 20);
        x.addBox(22, 10, 30, 20);
        x.link(0, 1, 5, 1, 3, 5);
        due("route with one outer point", x.route(0), 2);
        dueRoute(x, 0, "M20,15H22");
        x.link(0, 0, 0, 0, 3, 0);
        due("route to the same point", x.route(1), 34);
        dueRoute(x, 1, "M10,10V9H9V10H10");
        due("connector(1, 11)", x.connector(1, 11), 0);
        x.link(0, 0, 2, 0, 0, 8);
        due("route at one side", x.route(2), 2 + 6 + 20);
        dueRoute(x, 2, "M12,10V9H18V10");
        x.link(0, 0, 5, 0, 2, 5);
        due("route to the other side", x.route(3), 2 + 6 + 12 + 6 + 40);
        dueRoute(x, 3, "M15,10V9H21V21H15V20");
    }

    private static void routeAll() {
        promise = 12;
        ConnectorRouter x = pair();
        due("routeAll() of one", x.routeAll(), 1);
        x.link(0, 0, 5, 1, 0, 5);
        x.link(0, 2, 5, 1, 2, 5);
        due("routeAll() with two new ones", x.routeAll(), 2);
        due("routeAll() again", x.routeAll(), 0);
        due("setPenalty(20)", x.setPenalty(20), 10);
        due("routeAll() with new costs alone", x.routeAll(), 0);
        due("measure(1, 0)", x.measure(1, 0), 2 + 30 + 40);
        x.addBox(28, 8, 32, 16);
        due("routeAll() around a box", x.routeAll(), 2);
        due("undo()", x.undo(), 3);
        due("measure(0, 2)", x.measure(0, 2), 2);
        due("routeAll() without connectors", new ConnectorRouter().routeAll(), 0);
    }

    private static void reroute() {
        promise = 13;
        ConnectorRouter x = pair();
        x.addBox(28, 8, 32, 16);
        x.link(0, 2, 5, 1, 2, 5);
        due("reroute() of new ones", x.reroute(), 2);
        due("reroute() again", x.reroute(), 0);
        x.moveBox(2, 0, 70);
        due("reroute() leaves what could be shorter", x.reroute(), 0);
        due("measure(0, 0)", x.measure(0, 0), 64);
        x.moveBox(2, 0, -66);
        due("count(3)", x.count(3), 1);
        due("reroute() of a touched one", x.reroute(), 1);
        due("count(3)", x.count(3), 0);
        due("undo()", x.undo(), 3);
        due("count(3)", x.count(3), 1);
    }

    private static void refresh() {
        promise = 14;
        ConnectorRouter x = pair();
        x.addBox(28, 8, 32, 16);
        x.link(0, 2, 5, 1, 2, 5);
        due("refresh() of new ones", x.refresh(), 2);
        due("refresh() again", x.refresh(), 0);
        x.moveBox(2, 0, 70);
        due("refresh() of what could be shorter", x.refresh(), 1);
        due("measure(0, 0)", x.measure(0, 0), 20);
        x.setPenalty(50);
        due("refresh() with a greater penalty", x.refresh(), 0);
        due("measure(1, 0) keeps its cost", x.measure(1, 0), 52);
        due("best(1)", x.best(1), 132);
        x.moveBox(1, 0, 1);
        due("refresh() of touched ones that cost more", x.refresh(), 2);
        due("undo()", x.undo(), 3);
        due("measure(1, 0)", x.measure(1, 0), 52);
    }

    private static void best() {
        promise = 15;
        ConnectorRouter x = pair();
        long before = x.digest();
        due("best(0)", x.best(0), 20);
        due("best(1)", x.best(1), BAD_INDEX);
        due("best(-1)", x.best(-1), BAD_INDEX);
        due("digest() after best", x.digest(), before);
        due("undo() after best", x.undo(), 2);
    }

    private static void measure() {
        promise = 16;
        ConnectorRouter x = slant();
        x.link(0, 1, 2, 1, 3, 2);
        due("measure(0, 0) without a route", x.measure(0, 0), BAD_STATE);
        due("measure(0, 4) without a route", x.measure(0, 4), BAD_VALUE);
        due("measure(1, 4)", x.measure(1, 4), BAD_INDEX);
        due("measure(-1, 0)", x.measure(-1, 0), BAD_INDEX);
        x.route(0);
        int[] measures = {56, 36, 4, 3};
        for (int i = 0; i < measures.length; i++) {
            due("measure(0, " + i + ")", x.measure(0, i), measures[i]);
        }
        due("measure(0, 4)", x.measure(0, 4), BAD_VALUE);
        due("measure(0, -1)", x.measure(0, -1), BAD_VALUE);
        x.setPenalty(3);
        x.moveBox(0, 5, 0);
        due("measure(0, 0) stays", x.measure(0, 0), 56);
        due("measure(0, 1) stays", x.measure(0, 1), 36);
    }

    private static void corner() {
        promise = 17;
        ConnectorRouter x = slant();
        x.link(0, 1, 2, 1, 3, 2);
        due("corner(0, 0, 0) without a route", x.corner(0, 0, 0), BAD_INDEX);
        x.route(0);
        int[][] corners = {{14, 12}, {29, 12}, {29, 32}, {30, 32}};
        for (int i = 0; i < corners.length; i++) {
            due("corner(0, " + i + ", 0)", x.corner(0, i, 0), corners[i][0]);
            due("corner(0, " + i + ", 1)", x.corner(0, i, 1), corners[i][1]);
        }
        due("corner(0, 4, 0)", x.corner(0, 4, 0), BAD_INDEX);
        due("corner(0, -1, 2)", x.corner(0, -1, 2), BAD_INDEX);
        due("corner(1, 0, 0)", x.corner(1, 0, 0), BAD_INDEX);
        due("corner(0, greatest, 0)", x.corner(0, GREATEST, 0), BAD_INDEX);
        due("corner(0, 0, 2)", x.corner(0, 0, 2), BAD_VALUE);
        due("corner(0, 0, -1)", x.corner(0, 0, -1), BAD_VALUE);
    }

    private static void isOn() {
        promise = 18;
        ConnectorRouter x = slant();
        x.link(0, 1, 2, 1, 3, 2);
        due("isOn without a route", x.isOn(0, 14, 12), 0);
        x.route(0);
        int[][] answers = {{14, 12, 2}, {15, 12, 1}, {28, 12, 1}, {29, 12, 2}, {29, 13, 1}, {29, 31, 1},
            {29, 32, 2}, {30, 32, 2}, {13, 12, 0}, {31, 32, 0}, {20, 13, 0}, {30, 12, 0}, {29, 33, 0}, {28, 20, 0},
            {LEAST, 12, 0}, {GREATEST, GREATEST, 0}};
        for (int[] a : answers) {
            due("isOn(0, " + a[0] + ", " + a[1] + ")", x.isOn(0, a[0], a[1]), a[2]);
        }
        due("isOn(1, 0, 0)", x.isOn(1, 0, 0), BAD_INDEX);
        due("isOn(-1, 0, 0)", x.isOn(-1, 0, 0), BAD_INDEX);
    }

    private static void crossings() {
        promise = 19;
        ConnectorRouter x = new ConnectorRouter();
        x.addBox(10, 40, 14, 44);
        x.addBox(60, 40, 64, 44);
        x.addBox(35, 10, 39, 14);
        x.addBox(35, 70, 39, 74);
        x.link(0, 1, 2, 1, 3, 2);
        x.link(2, 2, 2, 3, 0, 2);
        due("crossings without routes", x.crossings(0, 1), 0);
        x.route(0);
        due("crossings without a route", x.crossings(0, 1), 0);
        x.route(1);
        due("crossings(0, 1)", x.crossings(0, 1), 1);
        due("crossings(1, 0)", x.crossings(1, 0), 1);
        due("crossings(0, 0)", x.crossings(0, 0), 0);
        due("crossings(0, 2)", x.crossings(0, 2), BAD_INDEX);
        due("crossings(2, 0)", x.crossings(2, 0), BAD_INDEX);
        due("crossings(-1, -1)", x.crossings(-1, -1), BAD_INDEX);
        // This one turns on the line of connector 0, without going through it.
        x.link(2, 2, 4, 1, 3, 2);
        x.route(2);
        dueRoute(x, 2, "M39,14V42H60");
        due("crossings(0, 2)", x.crossings(0, 2), 0);
        x.link(3, 0, 4, 1, 3, 2);
        x.route(3);
        dueRoute(x, 3, "M39,70V42H60");
        due("crossings(0, 3)", x.crossings(0, 3), 0);
        due("crossings(3, 0)", x.crossings(3, 0), 0);
        due("count(5)", x.count(5), 1);
    }

    private static void shared() {
        promise = 20;
        ConnectorRouter x = new ConnectorRouter();
        x.addBox(10, 40, 14, 44);
        x.addBox(60, 40, 64, 44);
        x.addBox(35, 10, 39, 14);
        x.link(0, 1, 2, 1, 3, 2);
        x.link(2, 2, 4, 1, 3, 2);
        x.link(2, 2, 4, 0, 1, 2);
        due("shared without routes", x.shared(0, 1), 0);
        due("shared with itself without a route", x.shared(0, 0), 0);
        x.routeAll();
        due("shared(0, 1)", x.shared(0, 1), 21);
        due("shared(1, 0)", x.shared(1, 0), 21);
        due("shared(0, 2)", x.shared(0, 2), 25);
        due("shared(1, 2)", x.shared(1, 2), 28);
        due("shared(0, 0)", x.shared(0, 0), 46);
        due("shared(1, 1)", x.shared(1, 1), 28 + 21);
        // Two parts of one line, with a gap between them, have nothing in common.
        x.addBox(70, 40, 74, 44);
        x.link(1, 1, 2, 3, 3, 2);
        due("route(3)", x.route(3), 6);
        due("shared(0, 3)", x.shared(0, 3), 0);
        due("shared(4, 0)", x.shared(4, 0), BAD_INDEX);
        due("shared(0, -1)", x.shared(0, -1), BAD_INDEX);
    }

    private static void lane() {
        promise = 21;
        ConnectorRouter x = slant();
        x.link(0, 1, 2, 1, 3, 2);
        due("lane without a route", x.lane(0, 1, 0), BAD_INDEX);
        x.route(0);
        int[] answers = {14 + 30 - 58, 0, 1, 580};
        for (int i = 0; i < answers.length; i++) {
            due("lane(0, 1, " + i + ")", x.lane(0, 1, i), answers[i]);
        }
        due("lane(0, 0, 0)", x.lane(0, 0, 0), BAD_INDEX);
        due("lane(0, 2, 0)", x.lane(0, 2, 0), BAD_INDEX);
        due("lane(0, -1, 9)", x.lane(0, -1, 9), BAD_INDEX);
        due("lane(1, 1, 0)", x.lane(1, 1, 0), BAD_INDEX);
        due("lane(0, greatest, 0)", x.lane(0, GREATEST, 0), BAD_INDEX);
        due("lane(0, 1, 4)", x.lane(0, 1, 4), BAD_VALUE);
        due("lane(0, 1, -1)", x.lane(0, 1, -1), BAD_VALUE);
    }

    /** Three connectors from the right side of one box to the left sides of others, all by x = 29. */
    private static void laneOfSeveral() {
        promise = 21;
        ConnectorRouter x = new ConnectorRouter();
        x.addBox(10, 10, 14, 30);
        x.addBox(30, 40, 34, 60);
        x.link(0, 1, 0, 1, 3, 8);
        x.link(0, 1, 2, 1, 3, 4);
        x.link(0, 1, 0, 1, 3, 0);
        x.routeAll();
        dueRoute(x, 0, "M14,10H29V48H30");
        dueRoute(x, 1, "M14,12H29V44H30");
        // Equal pulls: the connectors decide, and each collides with all before it.
        for (int i = 0; i < 3; i++) {
            due("lane(" + i + ", 1, 0)", x.lane(i, 1, 0), 14 + 30 - 58);
            due("lane(" + i + ", 1, 1)", x.lane(i, 1, 1), i);
            due("lane(" + i + ", 1, 2)", x.lane(i, 1, 2), 3);
            due("lane(" + i + ", 1, 3)", x.lane(i, 1, 3), 580 + (2 * i - 2) * 4);
        }
        // On the same line, with a common point, but no common length: a bundle of its own.
        x.addBox(10, 40, 14, 58);
        x.addBox(30, 62, 34, 90);
        x.link(2, 1, 8, 3, 3, 0);
        due("route(3)", x.route(3), 2 + 14 + 14 + 20);
        dueRoute(x, 3, "M14,48H29V62H30");
        due("lane(3, 1, 1)", x.lane(3, 1, 1), 0);
        due("lane(3, 1, 2)", x.lane(3, 1, 2), 1);
        due("lane(0, 1, 2)", x.lane(0, 1, 2), 3);
    }

    private static void write() {
        promise = 22;
        ConnectorRouter x = slant();
        x.link(0, 1, 2, 1, 3, 2);
        x.link(0, 0, 0, 0, 3, 0);
        due("write(0) without a route", x.write(0), BAD_STATE);
        due("write(2)", x.write(2), BAD_INDEX);
        due("write(-1)", x.write(-1), BAD_INDEX);
        x.route(0);
        due("write(0)", x.write(0), "M14,12H29V32H30".length());
        dueRoute(x, 0, "M14,12H29V32H30");
        due("write(1) without a route", x.write(1), BAD_STATE);
        due("written(1) stays", x.written(1), '1');
        x.route(1);
        due("write(1) in its place", x.write(1), "M10,10V9H9V10H10".length());
        dueRoute(x, 1, "M10,10V9H9V10H10");
        x.drop(1);
        due("written(0) stays", x.written(0), 'M');
    }

    private static void written() {
        promise = 23;
        ConnectorRouter x = slant();
        x.link(0, 1, 2, 1, 3, 2);
        x.route(0);
        due("written(0) before write", x.written(0), BAD_INDEX);
        x.write(0);
        String want = "M14,12H29V32H30";
        for (int i = 0; i < want.length(); i++) {
            due("written(" + i + ")", x.written(i), want.charAt(i));
        }
        due("written(15)", x.written(15), BAD_INDEX);
        due("written(-1)", x.written(-1), BAD_INDEX);
        due("written(greatest)", x.written(GREATEST), BAD_INDEX);
        x.undo();
        due("written(14) after undo", x.written(14), '0');
    }

    private static void type() {
        promise = 24;
        ConnectorRouter x = new ConnectorRouter();
        due("type(-1)", x.type(-1), BAD_VALUE);
        due("type(256)", x.type(256), BAD_VALUE);
        due("type(0)", x.type(0), 1);
        due("type(255)", x.type(255), 2);
        for (int i = 3; i <= 120; i++) {
            due("type(32)", x.type(32), i);
        }
        due("type(32) when full", x.type(32), FULL);
        due("type(256) when full", x.type(256), BAD_VALUE);
        due("undo() after type", x.undo(), BAD_STATE);
        due("clearText()", x.clearText(), 120);
    }

    private static void clearText() {
        promise = 25;
        ConnectorRouter x = new ConnectorRouter();
        due("clearText()", x.clearText(), 0);
        say(x, "all");
        due("textFault()", x.textFault(), NONE);
        due("clearText()", x.clearText(), 3);
        due("clearText()", x.clearText(), 0);
        due("textFault()", x.textFault(), 0);
        due("type(97)", x.type(97), 1);
    }

    private static void textFault() {
        promise = 26;
        String[] texts = {"", "   ", "all", " all ", "all;", "all; ", ";", "all;;all", "al", "alll", "all 1",
            "all1", "al 1", "bo", "box", "box 1 2 3", "box 1 2 3 ", "box 1 2 3 4", "box1 2 3 4", "box 1 2 3 4 5",
            "box 1 2 3 4;all", "box 1 2 3 4all", "box 1234 2 3 4", "box 1 2 3 1234", "box 001 2 3 4",
            "box 0001", "box 1,2", "box -1", "Box 1 2 3 4", "link 1 2 3 4 5 6", "link 1 2 3 4 5", "link 1 2 3;",
            "route 1", "route", "route x", "drop 1;drop", "penalty 999", "penalty 1000", "penalty50 ; drop0",
            "all ;  route 1  ;all", "all\t", "all;dro", "all;foo 1", "all 1234", "routeall 1", "route 1 all",
            "route 1 xyz", "undo", "1", "all;1", "box 1 2;3 4"};
        int[] faults = {0, 3, NONE, NONE, 4, 5, 0, 4, 0, 0, 4,
            3, 0, 0, 3, 9, 10, NONE, NONE, 12,
            NONE, 11, 4, 10, NONE,
            4, 5, 4, 0, NONE, 14, 10,
            NONE, 5, 6, 11, NONE, 8, NONE,
            NONE, 3, 4, 4, 4, 0, 8,
            8, 0, 0, 4, 7};
        // A new object for each text, as an object is good for 512 calls.
        for (int i = 0; i < texts.length; i++) {
            ConnectorRouter x = new ConnectorRouter();
            say(x, texts[i]);
            due("textFault() of '" + texts[i] + "'", x.textFault(), faults[i]);
        }
        // Bytes that are neighbours of letters and digits, and bytes above 127.
        for (int code : new int[] {'a' - 1, 'z' + 1, '0' - 1, '9' + 1, 0, 9, 255, 200}) {
            ConnectorRouter x = new ConnectorRouter();
            say(x, "all");
            x.type(code);
            due("textFault() with byte " + code, x.textFault(), 3);
        }
    }

    private static void run() {
        promise = 27;
        ConnectorRouter x = new ConnectorRouter();
        due("run() of no text", x.run(), BAD_STATE);
        say(x, "box 10 10 20 20; box 40 10 50 20;link0 1 5 1 3 5;all;penalty 7;route 0");
        due("run()", x.run(), 6);
        due("count(0)", x.count(0), 2);
        due("count(2)", x.count(2), 7);
        due("measure(0, 0)", x.measure(0, 0), 20);
        due("textFault() after run", x.textFault(), NONE);
        due("undo() of all commands", x.undo(), 0);
        due("count(0)", x.count(0), 0);
        due("count(2)", x.count(2), 10);
        due("run() again", x.run(), 6);
        say(x, "drop 000");
        due("run() of drop", x.run(), 1);
        due("count(1)", x.count(1), 0);
        due("clearText()", x.clearText(), 8);
    }

    private static void runStops() {
        promise = 27;
        ConnectorRouter x = pair();
        say(x, "route 1;all");
        due("run() with an error first", x.run(), 0);
        due("connector(0, 10)", x.connector(0, 10), 0);
        due("undo() of it", x.undo(), 3);
        due("count(1)", x.count(1), 1);
        say(x, "penalty 5;penalty 51;penalty 6");
        due("run() with an error behind", x.run(), 1);
        due("count(2)", x.count(2), 5);
        say(x, "all;all;al");
        due("run() with a fault", x.run(), BAD_STATE);
        due("connector(0, 10)", x.connector(0, 10), 0);
        due("undo() of the run before", x.undo(), 3);
        due("count(2)", x.count(2), 10);
        say(x, "box 12 12 30 30");
        due("run() with a box too near", x.run(), 0);
        due("setPenalty(3) records again", x.setPenalty(3), 10);
        due("undo()", x.undo(), 3);
        due("count(2)", x.count(2), 10);
    }

    private static void undo() {
        promise = 28;
        ConnectorRouter x = new ConnectorRouter();
        due("undo() of nothing", x.undo(), BAD_STATE);
        for (int i = 1; i <= 6; i++) {
            x.setPenalty(i);
        }
        due("undo()", x.undo(), 3);
        due("count(2)", x.count(2), 5);
        due("undo()", x.undo(), 2);
        due("setPenalty(40)", x.setPenalty(40), 4);
        due("undo()", x.undo(), 2);
        due("count(2)", x.count(2), 4);
        due("undo()", x.undo(), 1);
        due("undo()", x.undo(), 0);
        due("count(2)", x.count(2), 2);
        due("undo()", x.undo(), BAD_STATE);
        due("count(2)", x.count(2), 2);
        ConnectorRouter y = pair();
        y.route(0);
        long before = y.digest();
        y.moveBox(0, 0, 3);
        y.reroute();
        y.drop(0);
        due("undo()", y.undo(), 3);
        due("undo()", y.undo(), 2);
        due("undo()", y.undo(), 1);
        due("digest() is as before", y.digest(), before);
        due("measure(0, 0)", y.measure(0, 0), 20);
        say(y, "all");
        y.undo();
        due("clearText() after undo", y.clearText(), 3);
    }

    private static void digest() {
        promise = 29;
        ConnectorRouter x = pair();
        x.link(1, 0, 1, 0, 2, 3);
        x.route(0);
        int[] values = {2, 10, 10, 20, 20, 40, 10, 50, 20, 10, 2, 0, 1, 5, 1, 3, 5, 1, 20, 2, 20, 15, 40, 15,
            1, 0, 1, 0, 2, 3, 0};
        long hash = 19;
        for (int v : values) {
            hash = 31 * hash + v;
        }
        due("digest()", x.digest(), hash);
        due("digest() again", x.digest(), hash);
        say(x, "all");
        x.write(0);
        due("digest() leaves out the text", x.digest(), hash);
    }
}
