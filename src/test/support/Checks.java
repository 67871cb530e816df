/**
 * What the tests of boundary cases have in common: answers that are due, and calls that are refused, after
 * which nothing may differ from an object that never got the call.
 */
final class Checks {
    static final int NONE = -1000, BAD_INDEX = -1001, BAD_VALUE = -1002, BAD_STATE = -1003, FULL = -1004;
    static final int LEAST = Integer.MIN_VALUE, GREATEST = Integer.MAX_VALUE;

    /** Makes an object; made twice, the two objects are in the same state. */
    interface Making {
        ConnectorRouter make();
    }

    interface Call {
        long on(ConnectorRouter x);
    }

    /** A call with one argument that is of interest. */
    interface CallWith {
        long on(ConnectorRouter x, int value);
    }

    private static int wrong = 0;
    private static int checks = 0;
    private static String sentence = "";

    private Checks() {
    }

    /** Names the sentence of the document that the checks behind it are about. */
    static void sentence(String words) {
        sentence = words;
    }

    static void due(String call, long got, long want) {
        dueText(call, Long.toString(got), Long.toString(want));
    }

    static void dueText(String call, String got, String want) {
        checks++;
        if (!got.equals(want)) {
            wrong++;
            System.out.println("\"" + sentence + "\": " + call + " answered " + got + ", due is " + want);
        }
    }

    static void dueRoute(ConnectorRouter x, int connector, String want) {
        dueText("the route of " + connector, writing(x, connector), want);
    }

    /** The call answers the error, and leaves the object as one is that never got the call. */
    static void refused(String name, Making making, Call call, int error) {
        ConnectorRouter x = making.make();
        due(name, call.on(x), error);
        dueText("what " + name + " leaves", portrait(x), portrait(making.make()));
    }

    /** The same for several values of an argument. */
    static void refusedFor(String name, Making making, CallWith call, int error, int... values) {
        for (int value : values) {
            refused(name + " with " + value, making, x -> call.on(x, value), error);
        }
    }

    /** The call answers as due, and changes nothing, not the history either. */
    static void onlyAsks(String name, Making making, Call call, long want) {
        ConnectorRouter x = making.make();
        due(name, call.on(x), want);
        dueText("what " + name + " leaves", portrait(x), portrait(making.make()));
    }

    /** The call answers as due and records one state: undo() brings back what was there before. */
    static void records(String name, Making making, Call call, long want) {
        ConnectorRouter x = making.make();
        long before = x.digest();
        int kept = statesKept(making.make());
        due(name, call.on(x), want);
        due("undo() behind " + name, x.undo(), Math.min(kept + 1, 4) - 1);
        due("digest() behind undo() of " + name, x.digest(), before);
    }

    private static int statesKept(ConnectorRouter x) {
        int kept = 0;
        while (kept < 9 && x.undo() >= 0) {
            kept++;
        }
        return kept;
    }

    /**
     * All that an object shows: the state, what is written, each state of the history, and the text, by its
     * length, its fault and what it does. It uses the object up, with fewer than 200 calls.
     */
    static String portrait(ConnectorRouter x) {
        StringBuilder shown = new StringBuilder();
        shown.append(x.digest()).append(' ').append(x.textFault());
        for (int i = 0; i < 120 && x.written(i) >= 0; i++) {
            shown.append(' ').append(x.written(i));
        }
        for (int i = 0; i < 6; i++) {
            shown.append(" undo ").append(x.undo()).append(' ').append(x.digest());
        }
        shown.append(" run ").append(x.run()).append(' ').append(x.digest());
        shown.append(" text ").append(x.clearText());
        return shown.toString();
    }

    static String writing(ConnectorRouter x, int connector) {
        int length = x.write(connector);
        StringBuilder found = new StringBuilder();
        for (int i = 0; i < length; i++) {
            found.append((char) x.written(i));
        }
        return found.toString();
    }

    static void type(ConnectorRouter x, String text) {
        for (int i = 0; i < text.length(); i++) {
            x.type(text.charAt(i));
        }
    }

    /** An object with a text alone. */
    static ConnectorRouter typed(String text) {
        ConnectorRouter x = new ConnectorRouter();
        type(x, text);
        return x;
    }

    static ConnectorRouter withBox(int x1, int y1, int x2, int y2) {
        ConnectorRouter x = new ConnectorRouter();
        due("addBox", x.addBox(x1, y1, x2, y2), 0);
        return x;
    }

    /**
     * Three boxes and four connectors, of which the third has no route, with a full history of states that
     * differ, a text that does something, and something written.
     */
    static ConnectorRouter busy() {
        ConnectorRouter x = new ConnectorRouter();
        x.addBox(10, 10, 20, 20);
        x.addBox(40, 10, 50, 20);
        x.addBox(10, 40, 20, 60);
        x.link(0, 1, 5, 1, 3, 5);
        x.link(0, 2, 5, 2, 0, 5);
        x.link(1, 2, 5, 2, 1, 10);
        x.link(0, 1, 5, 2, 1, 10);
        x.route(0);
        x.route(1);
        x.route(3);
        x.setPenalty(12);
        type(x, "penalty 33;route 2");
        x.write(3);
        return x;
    }

    /** Eight boxes in two rows, and below them ten connectors from the first to the second one. */
    static ConnectorRouter crowded() {
        ConnectorRouter x = new ConnectorRouter();
        for (int i = 0; i < 8; i++) {
            x.addBox(5 + 22 * (i % 4), 10 + 30 * (i / 4), 15 + 22 * (i % 4), 20 + 30 * (i / 4));
        }
        for (int i = 0; i < 10; i++) {
            x.link(0, 1, i, 1, 3, i);
        }
        return x;
    }

    /** Prints what was found; ends with exit code 1 if an answer was wrong. */
    static void finish() {
        System.out.println(checks + " checks, " + wrong + " wrong");
        if (wrong != 0) {
            System.exit(1);
        }
    }
}
