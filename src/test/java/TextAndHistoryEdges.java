/** Each sentence of "Description" on the text, what is written, the history and the errors. */
public final class TextAndHistoryEdges {
    private static final int NONE = Checks.NONE, BAD_INDEX = Checks.BAD_INDEX, BAD_VALUE = Checks.BAD_VALUE;
    private static final int BAD_STATE = Checks.BAD_STATE, FULL = Checks.FULL;
    private static final int LEAST = Checks.LEAST, GREATEST = Checks.GREATEST;

    public static void main(String[] args) {
        textLength();
        longTexts();
        words();
        wordsAtTheEnd();
        numberDigits();
        numberCounts();
        blanks();
        otherBytes();
        semicolons();
        endsTooEarly();
        firstFault();
        valuesOfNumbers();
        argumentsOfCommands();
        writtenForm();
        historyAtMost();
        historyAfterUndo();
        recordedEvenIfNothingChanges();
        recordedChanges();
        notRecorded();
        notInTheHistory();
        orderOfErrors();
        orderWhenFull();
        orderWithoutRoute();
        callsOfAnObject();
        Checks.finish();
    }

    private static void fault(String text, int want) {
        Checks.onlyAsks("textFault() of '" + text + "'", () -> Checks.typed(text), x -> x.textFault(), want);
        if (want != NONE) {
            Checks.refused("run() of '" + text + "'", () -> Checks.typed(text), x -> x.run(), BAD_STATE);
        }
    }

    // ---- the text

    private static String repeat(String part, int times) {
        StringBuilder whole = new StringBuilder();
        for (int i = 0; i < times; i++) {
            whole.append(part);
        }
        return whole.toString();
    }

    private static void textLength() {
        Checks.sentence("a text of at most 120 bytes");
        ConnectorRouter x = new ConnectorRouter();
        for (int i = 1; i <= 120; i++) {
            Checks.due("type, byte " + i, x.type(i % 256), i);
        }
        Checks.due("type, byte 121", x.type(97), FULL);
        Checks.due("clearText()", x.clearText(), 120);
        Checks.due("type behind clearText()", x.type(97), 1);
        String full = repeat("all;", 29) + "all ";
        Checks.refusedFor("type when full", () -> Checks.typed(full), (y, v) -> y.type(v), FULL, 0, 32, 59, 97, 255);
        Checks.due("type when one is free", Checks.typed(full.substring(1)).type(32), 120);
    }

    private static void longTexts() {
        Checks.sentence("a text of at most 120 bytes (that is carried out to its last one)");
        ConnectorRouter x = Checks.typed(repeat("all;", 29) + "all ");
        Checks.due("textFault()", x.textFault(), NONE);
        Checks.due("run()", x.run(), 30);
        fault(repeat("all;", 30), 120);
        fault(repeat(" ", 120), 120);
        fault(repeat(" ", 117) + "all", NONE);
        fault(repeat(" ", 118) + "al", 118);
        fault(repeat("a", 120), 0);
        fault("penalty " + repeat("1", 112), 8);
        ConnectorRouter y = Checks.typed("all;" + repeat(" ", 107) + "penalty 7");
        Checks.due("run() with a number at byte 120", y.run(), 2);
        Checks.due("count(2)", y.count(2), 7);
    }

    private static void words() {
        Checks.sentence("A word is a longest sequence of small letters; one that is none of these words is a fault");
        String[] known = {"box 1 2 3 4", "link 1 2 3 4 5 6", "route 1", "drop 1", "penalty 1", "all"};
        for (String command : known) {
            int end = command.indexOf(' ') < 0 ? command.length() : command.indexOf(' ');
            String word = command.substring(0, end);
            String rest = command.substring(end);
            fault(command, NONE);
            fault("all;" + command, NONE);
            fault(word.substring(1) + rest, 0);
            fault(word.substring(0, end - 1) + rest, 0);
            for (char letter = 'a'; letter <= 'z'; letter++) {
                fault(word + letter + rest, 0);
                fault(letter + word + rest, 0);
            }
            for (int i = 0; i < end; i++) {
                // A neighbour of a letter in its place: no letter may go unread.
                char other = (char) (word.charAt(i) == 'z' ? 'y' : word.charAt(i) + 1);
                fault(word.substring(0, i) + other + word.substring(i + 1) + rest, 0);
            }
            fault("all; " + word + word + rest, 5);
            fault(word.toUpperCase() + rest, 0);
            fault("all;" + word.substring(0, end - 1) + "Z" + rest, 4);
            fault(word.charAt(0) + " " + word.substring(1) + rest, 0);
        }
        String[] unknown = {"move", "undo", "a", "z", "x", "boxes", "run", "refresh", "reroute", "best"};
        for (String word : unknown) {
            fault(word, 0);
            fault(word + " 1", 0);
            fault(" all ; " + word, 7);
        }
    }

    private static void wordsAtTheEnd() {
        Checks.sentence("a sequence of small letters that is none of these words (also at the end of the text)");
        String[] words = {"box", "link", "route", "drop", "penalty", "all"};
        for (String word : words) {
            for (int i = 1; i < word.length(); i++) {
                fault(word.substring(0, i), 0);
                fault("all;" + word.substring(0, i), 4);
                fault("all; " + word.substring(0, i) + " ", 5);
            }
            fault(word, word.equals("all") ? NONE : word.length());
        }
        // It is a fault where no word can stand, too, and there a known word is one as well.
        fault("all al", 4);
        fault("all all", 4);
        fault("route box", 6);
        fault("route 1 all", 8);
        fault("route 1all", 7);
    }

    private static void numberDigits() {
        Checks.sentence("a number a longest sequence of digits, of which it has 1 to 3");
        fault("penalty 1", NONE);
        fault("penalty 12", NONE);
        fault("penalty 123", NONE);
        fault("penalty 1234", 8);
        fault("penalty 0000", 8);
        fault("penalty 000", NONE);
        fault("penalty 12345678901", 8);
        fault("penalty 4294967296", 8);
        fault("penalty 1234 ", 8);
        fault("penalty1234", 7);
        fault("box 1 2 3 1234", 10);
        fault("box 1 2 1234 4", 8);
        fault("box 999 999 999 999", NONE);
        fault("link 1 2 3 4 5 0006", 15);
        fault("all;drop 1234", 9);
        fault("penalty", 7);
        fault("penalty ", 8);
    }

    private static void numberCounts() {
        Checks.sentence("The words, with as many numbers as the methods have arguments");
        String[] words = {"box", "link", "route", "drop", "penalty", "all"};
        int[] counts = {4, 6, 1, 1, 1, 0};
        for (int i = 0; i < words.length; i++) {
            StringBuilder text = new StringBuilder(words[i]);
            for (int n = 0; n <= 8; n++) {
                int firstTooMany = words[i].length() + 1 + 2 * counts[i];
                String now = text.toString();
                fault(now, n < counts[i] ? now.length() : n == counts[i] ? NONE : firstTooMany);
                fault(now + ";all", n < counts[i] ? now.length() : n == counts[i] ? NONE : firstTooMany);
                text.append(" 1");
            }
        }
        fault("all 1234", 4);
        fault("all1", 3);
        fault("route 1 1234", 8);
    }

    private static void blanks() {
        Checks.sentence("Blanks (32) can stand before and after words, numbers and semicolons");
        fault("  all  ", NONE);
        fault(" all ; all ", NONE);
        fault("   penalty   7   ;   all   ", NONE);
        fault("penalty7;all;drop0", NONE);
        fault("box1 2 3 4", NONE);
        fault("  ", 2);
        fault("", 0);
        Checks.sentence("between two numbers there must be one");
        fault("box 1 2 3  4", NONE);
        fault("box 1 2 34", 10);
        fault("box 1 234", 9);
        fault("box 1234", 4);
        fault("link1 2 3 4 5 6", NONE);
        fault("pen alty 1", 0);
        fault("box 1 2 3 4 ; box 5 6 7 8", NONE);
    }

    private static void otherBytes() {
        Checks.sentence("the index of the first byte that cannot stand at its place");
        // Every byte that is no blank, letter, digit or semicolon is a fault wherever it stands.
        for (int code = 0; code < 256; code++) {
            boolean isKnown = code == 32 || code == ';' || code >= 'a' && code <= 'z' || code >= '0' && code <= '9';
            if (!isKnown) {
                char c = (char) code;
                Checks.due("textFault() with " + code + " first", Checks.typed(c + "all").textFault(), 0);
                Checks.due("textFault() with " + code + " behind a word", Checks.typed("all" + c).textFault(), 3);
                Checks.due("textFault() with " + code + " for a number", Checks.typed("drop " + c).textFault(), 5);
                Checks.due("textFault() with " + code + " in numbers", Checks.typed("box 1" + c).textFault(), 5);
                Checks.due("textFault() with " + code + " at the end", Checks.typed("drop 1 " + c).textFault(), 7);
                Checks.due("textFault() with " + code + " for a word", Checks.typed("all;" + c).textFault(), 4);
            }
        }
        fault("drop -1", 5);
        fault("drop +1", 5);
        fault("box 1,2,3,4", 5);
        fault("all.", 3);
        fault("all\tall", 3);
        fault("all\n", 3);
    }

    private static void semicolons() {
        Checks.sentence("commands = command { \";\" command }");
        fault("all;all", NONE);
        fault(";", 0);
        fault(" ;", 1);
        fault(";all", 0);
        fault("all;;all", 4);
        fault("all; ;all", 5);
        fault("all;", 4);
        fault("all; ", 5);
        fault("all;;", 4);
        fault("drop;", 4);
        fault("drop ;1", 5);
        fault("box 1 2;3 4", 7);
        fault("1", 0);
        fault("all;1", 4);
    }

    private static void endsTooEarly() {
        Checks.sentence("otherwise it is the length of the text if the text ends too early (also if it is empty)");
        String text = "box 1 2 33 4;all; link 1 2 3 4 5 6";
        for (int end = 0; end <= text.length(); end++) {
            String part = text.substring(0, end);
            // Where a part breaks off within a word, the word is the fault; some parts are whole commands.
            boolean isWhole = end >= 12 && end <= 12 || end == 16 || end == 34;
            int word = end > 0 && end < 3 ? 0 : end > 13 && end < 16 ? 13 : end > 18 && end < 22 ? 18 : -1;
            fault(part, isWhole ? NONE : word >= 0 ? word : end);
        }
    }

    private static void firstFault() {
        Checks.sentence("The fault of the text is the index of the first byte that cannot stand at its place");
        fault("al!", 0);
        fault("all!al", 3);
        fault("drop 1234;foo", 5);
        fault("foo;drop 1234", 0);
        fault("drop;1234", 4);
        fault("penalty 1x", 9);
        fault("penalty 1box", 9);
        fault("penalty x1", 8);
        fault("penalty 12345x", 8);
        fault("box 1 2 3;", 9);
        fault("box 1 2 3!", 9);
    }

    private static void valuesOfNumbers() {
        Checks.sentence("a number has 1 to 3 digits (and the value that they write)");
        String[] texts = {"penalty 0", "penalty 50", "penalty 050", "penalty 7", "penalty 007", "penalty 00"};
        int[] values = {0, 50, 50, 7, 7, 0};
        for (int i = 0; i < texts.length; i++) {
            ConnectorRouter x = Checks.typed(texts[i]);
            Checks.due("run() of " + texts[i], x.run(), 1);
            Checks.due("count(2) behind " + texts[i], x.count(2), values[i]);
        }
        for (String text : new String[] {"penalty 51", "penalty 100", "penalty 999"}) {
            ConnectorRouter x = Checks.typed(text);
            Checks.due("run() of " + text, x.run(), 0);
            Checks.due("count(2) behind " + text, x.count(2), 10);
        }
        ConnectorRouter y = Checks.typed("box 2 2 97 97");
        Checks.due("run() of the largest box", y.run(), 1);
        Checks.due("box(0, 2)", y.box(0, 2), 97);
    }

    private static void argumentsOfCommands() {
        Checks.sentence("box for addBox(), link for link(), route, drop, penalty, and all for routeAll()");
        ConnectorRouter x = Checks.typed("box 10 20 30 45;box 50 60 75 90;link 1 2 3 0 1 4;link 0 3 5 1 0 6");
        Checks.due("run()", x.run(), 4);
        int[][] boxes = {{10, 20, 30, 45}, {50, 60, 75, 90}};
        int[][] ports = {{1, 2, 3, 0, 1, 4}, {0, 3, 5, 1, 0, 6}};
        for (int i = 0; i < 2; i++) {
            for (int what = 0; what < 4; what++) {
                Checks.due("box(" + i + ", " + what + ")", x.box(i, what), boxes[i][what]);
            }
            for (int what = 0; what < 6; what++) {
                Checks.due("connector(" + i + ", " + what + ")", x.connector(i, what), ports[i][what]);
            }
        }
        x.clearText();
        Checks.type(x, "route 1");
        Checks.due("run() of route", x.run(), 1);
        Checks.due("connector(0, 10)", x.connector(0, 10), 0);
        Checks.due("connector(1, 10)", x.connector(1, 10), 1);
        x.clearText();
        Checks.type(x, "drop 1;all");
        Checks.due("run() of drop and all", x.run(), 2);
        Checks.due("count(1)", x.count(1), 1);
        Checks.due("connector(0, 10)", x.connector(0, 10), 1);
    }

    private static void writtenForm() {
        Checks.sentence("A route is written as \"M\", its first x, \",\", its first y, and then each further corner");
        // Coordinates of one digit and of two, from the least to the greatest.
        ConnectorRouter x = Checks.withBox(2, 2, 97, 97);
        x.link(0, 0, 7, 0, 3, 8);
        x.link(0, 1, 95, 0, 2, 94);
        x.routeAll();
        Checks.dueRoute(x, 0, "M9,2V1H1V10H2");
        Checks.due("write(0)", x.write(0), 13);
        Checks.dueRoute(x, 1, "M97,97H98V98H96V97");
        Checks.due("write(1)", x.write(1), 18);
        ConnectorRouter y = Checks.withBox(2, 20, 10, 30);
        y.addBox(25, 40, 35, 50);
        y.link(0, 1, 0, 1, 0, 5);
        y.route(0);
        Checks.due("the example of the document", y.write(0), "M10,20H30V40".length());
        Checks.dueRoute(y, 0, "M10,20H30V40");
        // The shortest route, and one that starts with a vertical segment.
        ConnectorRouter z = Checks.withBox(2, 2, 4, 4);
        z.addBox(2, 6, 4, 8);
        z.link(0, 2, 0, 1, 0, 0);
        z.route(0);
        Checks.due("write(0) of the shortest", z.write(0), 6);
        Checks.dueRoute(z, 0, "M2,4V6");
    }

    // ---- the history

    private static void historyAtMost() {
        Checks.sentence("A history of at most 4 states is kept; when one more is recorded, the oldest one is dropped");
        for (int calls = 0; calls <= 9; calls++) {
            ConnectorRouter x = new ConnectorRouter();
            for (int i = 1; i <= calls; i++) {
                x.setPenalty(20 + i);
            }
            for (int left = Math.min(calls, 4) - 1; left >= 0; left--) {
                Checks.due("undo() of " + calls, x.undo(), left);
                int before = calls - Math.min(calls, 4) + left;
                Checks.due("count(2)", x.count(2), before == 0 ? 10 : 20 + before);
            }
            Checks.due("undo() of none", x.undo(), BAD_STATE);
            Checks.due("undo() of none again", x.undo(), BAD_STATE);
            int first = Math.max(calls - 4, 0);
            Checks.due("count(2) stays", x.count(2), first == 0 ? 10 : 20 + first);
        }
        Checks.refused("undo() of none", ConnectorRouter::new, x -> x.undo(), BAD_STATE);
    }

    private static void historyAfterUndo() {
        Checks.sentence("undo() removes and restores the latest one");
        ConnectorRouter x = new ConnectorRouter();
        for (int i = 1; i <= 6; i++) {
            x.setPenalty(i);
        }
        Checks.due("undo()", x.undo(), 3);
        Checks.due("undo()", x.undo(), 2);
        // Two places are free again, and the third call drops the oldest state.
        for (int i = 31; i <= 33; i++) {
            x.setPenalty(i);
        }
        int[] penalties = {32, 31, 4, 3};
        for (int i = 0; i < 4; i++) {
            Checks.due("undo()", x.undo(), 3 - i);
            Checks.due("count(2)", x.count(2), penalties[i]);
        }
        Checks.due("undo() of none", x.undo(), BAD_STATE);
        Checks.due("setPenalty(40)", x.setPenalty(40), 3);
        Checks.due("undo() of one", x.undo(), 0);
    }

    /** A full history, and routes that are as good as can be, with the text of a command that fails. */
    private static ConnectorRouter settled() {
        ConnectorRouter x = Checks.withBox(10, 10, 20, 20);
        x.addBox(40, 10, 50, 20);
        x.link(0, 1, 5, 1, 3, 5);
        x.link(0, 0, 5, 1, 0, 5);
        x.routeAll();
        Checks.type(x, "drop 2;drop 0");
        return x;
    }

    private static ConnectorRouter empty() {
        return Checks.typed("drop 0");
    }

    private static void recordedEvenIfNothingChanges() {
        Checks.sentence("record the whole state before each call that returns no error, even if it changes nothing");
        Checks.records("moveBox(0, 0, 0)", TextAndHistoryEdges::settled, x -> x.moveBox(0, 0, 0), 0);
        Checks.records("setPenalty(10)", TextAndHistoryEdges::settled, x -> x.setPenalty(10), 10);
        Checks.records("route(0)", TextAndHistoryEdges::settled, x -> x.route(0), 20);
        Checks.records("routeAll()", TextAndHistoryEdges::settled, x -> x.routeAll(), 0);
        Checks.records("reroute()", TextAndHistoryEdges::settled, x -> x.reroute(), 0);
        Checks.records("refresh()", TextAndHistoryEdges::settled, x -> x.refresh(), 0);
        Checks.records("run()", TextAndHistoryEdges::settled, x -> x.run(), 0);
        Checks.records("routeAll() of none", TextAndHistoryEdges::empty, x -> x.routeAll(), 0);
        Checks.records("reroute() of none", TextAndHistoryEdges::empty, x -> x.reroute(), 0);
        Checks.records("refresh() of none", TextAndHistoryEdges::empty, x -> x.refresh(), 0);
        Checks.records("run() of an error", TextAndHistoryEdges::empty, x -> x.run(), 0);
        Checks.records("setPenalty(10)", TextAndHistoryEdges::empty, x -> x.setPenalty(10), 10);
        // Four calls that change nothing push out all that changed something.
        ConnectorRouter x = settled();
        long before = x.digest();
        x.routeAll();
        x.reroute();
        x.refresh();
        x.run();
        for (int left = 3; left >= 0; left--) {
            Checks.due("undo()", x.undo(), left);
            Checks.due("digest()", x.digest(), before);
        }
        Checks.due("undo() of none", x.undo(), BAD_STATE);
    }

    private static void recordedChanges() {
        Checks.sentence("The methods that are said to be recorded record the whole state");
        Checks.records("addBox", Checks::busy, x -> x.addBox(70, 70, 80, 80), 3);
        Checks.records("moveBox", Checks::busy, x -> x.moveBox(0, 1, 1), 3);
        Checks.records("link", Checks::busy, x -> x.link(0, 0, 0, 1, 0, 0), 4);
        Checks.records("drop", Checks::busy, x -> x.drop(0), 3);
        Checks.records("setPenalty", Checks::busy, x -> x.setPenalty(0), 12);
        Checks.records("route", Checks::busy, x -> x.route(2), 30 + 25 + 12);
        Checks.records("routeAll", Checks::busy, x -> x.routeAll(), 1);
        Checks.records("reroute", Checks::busy, x -> x.reroute(), 1);
        Checks.records("refresh", Checks::busy, x -> x.refresh(), 1);
        Checks.records("run", Checks::busy, x -> x.run(), 2);
        Checks.records("addBox on an empty canvas", ConnectorRouter::new, x -> x.addBox(2, 2, 97, 97), 0);
        // A dropped connector comes back with its route and its number.
        ConnectorRouter y = Checks.busy();
        y.drop(1);
        y.drop(0);
        y.undo();
        y.undo();
        Checks.dueRoute(y, 0, "M20,15H40");
        Checks.dueRoute(y, 1, "M15,20V40");
        Checks.due("connector(2, 10)", y.connector(2, 10), 0);
        Checks.dueRoute(y, 3, "M20,15H21V50H20");
    }

    private static void notRecorded() {
        Checks.sentence("The methods that are said to be recorded record (and no other one does)");
        long digest = Checks.busy().digest();
        Checks.onlyAsks("box", Checks::busy, x -> x.box(0, 4), 3);
        Checks.onlyAsks("blocker", Checks::busy, x -> x.blocker(10, 10), 0);
        Checks.onlyAsks("count", Checks::busy, x -> x.count(3), 1);
        Checks.onlyAsks("connector", Checks::busy, x -> x.connector(2, 11), 1);
        Checks.onlyAsks("best", Checks::busy, x -> x.best(2), 30 + 25 + 12);
        Checks.onlyAsks("measure", Checks::busy, x -> x.measure(0, 0), 20);
        Checks.onlyAsks("corner", Checks::busy, x -> x.corner(3, 1, 0), 21);
        Checks.onlyAsks("isOn", Checks::busy, x -> x.isOn(3, 21, 15), 2);
        Checks.onlyAsks("crossings", Checks::busy, x -> x.crossings(0, 3), 0);
        Checks.onlyAsks("shared", Checks::busy, x -> x.shared(0, 3), 1);
        Checks.onlyAsks("lane", Checks::busy, x -> x.lane(3, 1, 3), 420);
        Checks.onlyAsks("write of what is written", Checks::busy, x -> x.write(3), 15);
        Checks.onlyAsks("written", Checks::busy, x -> x.written(0), 'M');
        Checks.onlyAsks("textFault", Checks::busy, x -> x.textFault(), NONE);
        Checks.onlyAsks("digest", Checks::busy, x -> x.digest(), digest);
        ConnectorRouter x = Checks.busy();
        x.write(0);
        x.type(32);
        x.clearText();
        Checks.due("undo() behind write, type and clearText", x.undo(), 3);
        Checks.due("count(2) is that before setPenalty", x.count(2), 10);
    }

    private static void notInTheHistory() {
        Checks.sentence("the whole state (all but the text and what is written)");
        ConnectorRouter x = Checks.busy();
        x.setPenalty(1);
        x.clearText();
        Checks.type(x, "penalty 44");
        x.write(0);
        Checks.due("undo()", x.undo(), 3);
        Checks.due("written(8)", x.written(8), '0');
        Checks.due("written(9)", x.written(9), BAD_INDEX);
        Checks.due("run() of the text", x.run(), 1);
        Checks.due("count(2)", x.count(2), 44);
        Checks.due("undo() of the run", x.undo(), 3);
        Checks.due("clearText()", x.clearText(), 10);
        for (int i = 0; i < 3; i++) {
            x.undo();
        }
        Checks.due("written(0) when all is undone", x.written(0), 'M');
        Checks.due("clearText() stays undone by none", x.clearText(), 0);
    }

    // ---- the errors

    private static void orderOfErrors() {
        Checks.sentence("If several apply to a call, the first one in this order is returned");
        Checks.refused("no box, bad dx", Checks::busy, x -> x.moveBox(3, 100, 0), BAD_INDEX);
        Checks.refused("no box, bad dy", Checks::busy, x -> x.moveBox(-1, 0, GREATEST), BAD_INDEX);
        Checks.refused("bad dx, near another one", Checks::busy, x -> x.moveBox(0, 30, 100), BAD_VALUE);
        Checks.refused("off the canvas, near another one", Checks::busy, x -> x.moveBox(2, 0, -39), BAD_VALUE);
        Checks.refused("no box, bad what", Checks::busy, x -> x.box(3, 5), BAD_INDEX);
        Checks.refused("bad box, near another one", Checks::busy, x -> x.addBox(1, 10, 20, 20), BAD_VALUE);
        Checks.refused("bad box, on another one", Checks::busy, x -> x.addBox(15, 15, 15, 18), BAD_VALUE);
        Checks.refused("no first box, bad side", Checks::busy, x -> x.link(3, 4, 0, 0, 0, 0), BAD_INDEX);
        Checks.refused("no last box, bad side", Checks::busy, x -> x.link(0, 4, 0, 3, 0, 0), BAD_INDEX);
        Checks.refused("no last box, bad offset", Checks::busy, x -> x.link(0, 0, 11, -1, 0, 0), BAD_INDEX);
        Checks.refused("no box, the same port", Checks::busy, x -> x.link(3, 0, 0, 3, 0, 0), BAD_INDEX);
        Checks.refused("bad side, the same port", Checks::busy, x -> x.link(0, 4, 0, 0, 4, 0), BAD_VALUE);
        Checks.refused("bad offset, the same port", Checks::busy, x -> x.link(0, 0, 11, 0, 0, 11), BAD_VALUE);
        Checks.refused("no connector, bad what", Checks::busy, x -> x.connector(4, 12), BAD_INDEX);
        Checks.refused("no connector, bad what", Checks::busy, x -> x.measure(4, 4), BAD_INDEX);
        Checks.refused("no connector, bad what", Checks::busy, x -> x.corner(4, 0, 2), BAD_INDEX);
        Checks.refused("no corner, bad what", Checks::busy, x -> x.corner(0, 2, 2), BAD_INDEX);
        Checks.refused("no connector, bad what", Checks::busy, x -> x.lane(4, 1, 4), BAD_INDEX);
        Checks.refused("no inner segment, bad what", Checks::busy, x -> x.lane(3, 2, 4), BAD_INDEX);
    }

    private static void orderWhenFull() {
        Checks.sentence("If several apply to a call, the first one in this order is returned (FULL is the last)");
        Checks.refused("full", Checks::crowded, x -> x.addBox(5, 70, 15, 80), FULL);
        Checks.refused("near, full", Checks::crowded, x -> x.addBox(5, 51, 15, 80), BAD_STATE);
        Checks.refused("bad, full", Checks::crowded, x -> x.addBox(1, 70, 15, 80), BAD_VALUE);
        Checks.refused("bad, near, full", Checks::crowded, x -> x.addBox(1, 51, 15, 80), BAD_VALUE);
        Checks.refused("full", Checks::crowded, x -> x.link(0, 0, 0, 1, 0, 0), FULL);
        Checks.refused("same port, full", Checks::crowded, x -> x.link(0, 0, 0, 0, 0, 0), BAD_STATE);
        Checks.refused("bad offset, full", Checks::crowded, x -> x.link(0, 0, 11, 1, 0, 0), BAD_VALUE);
        Checks.refused("bad side, same port, full", Checks::crowded, x -> x.link(0, 4, 0, 0, 4, 0), BAD_VALUE);
        Checks.refused("no box, full", Checks::crowded, x -> x.link(0, 0, 0, 8, 0, 0), BAD_INDEX);
        Checks.Making full = () -> Checks.typed(repeat("all;", 29) + "all ");
        Checks.refusedFor("bad byte, full", full, (x, v) -> x.type(v), BAD_VALUE, LEAST, -1, 256, GREATEST);
    }

    private static void orderWithoutRoute() {
        Checks.sentence("If several apply to a call, the first one is returned (of a connector without a route)");
        Checks.refused("no route", Checks::busy, x -> x.measure(2, 0), BAD_STATE);
        Checks.refused("bad what, no route", Checks::busy, x -> x.measure(2, 4), BAD_VALUE);
        Checks.refused("bad what, no route", Checks::busy, x -> x.measure(2, -1), BAD_VALUE);
        Checks.refused("no route", Checks::busy, x -> x.corner(2, 0, 0), BAD_INDEX);
        Checks.refused("no route, bad what", Checks::busy, x -> x.corner(2, 0, 2), BAD_INDEX);
        Checks.refused("no route", Checks::busy, x -> x.lane(2, 1, 0), BAD_INDEX);
        Checks.refused("no route, bad what", Checks::busy, x -> x.lane(2, 1, 4), BAD_INDEX);
        Checks.refused("no route", Checks::busy, x -> x.write(2), BAD_STATE);
        Checks.sentence("NONE is returned only if no error applies");
        Checks.refused("a free point with a bad y", Checks::busy, x -> x.blocker(0, 100), BAD_VALUE);
        Checks.refused("a free point with a bad x", Checks::busy, x -> x.blocker(-1, 0), BAD_VALUE);
    }

    private static void callsOfAnObject() {
        Checks.sentence("An object is used for at most 512 calls after it has been made");
        ConnectorRouter x = new ConnectorRouter();
        for (int i = 1; i <= 508; i++) {
            int due = i == 1 ? 10 : (i - 1) % 51;
            Checks.due("call " + i, x.setPenalty(i % 51), due);
        }
        for (int left = 3; left >= 1; left--) {
            Checks.due("call " + (512 - left), x.undo(), left);
        }
        Checks.due("call 512", x.count(2), 505 % 51);
    }
}
