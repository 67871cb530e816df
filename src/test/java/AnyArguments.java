import java.util.Random;

/** Every method with any ints in any state: no call throws, and one that answers an error changes nothing. */
public final class AnyArguments {
    private static final int[] EDGES = {Integer.MIN_VALUE, Integer.MIN_VALUE + 1, -1001, -1000, -100, -99, -2, -1,
        0, 1, 2, 3, 4, 5, 8, 10, 50, 51, 97, 98, 99, 100, 120, 255, 256, 1 << 30, Integer.MAX_VALUE};

    private static int wrong = 0;
    // How many calls the latest round made; an object is good for 512.
    private static int made = 1;

    public static void main(String[] args) {
        for (int seed = 1; seed <= 900; seed++) {
            Random random = new Random(seed);
            ConnectorRouter x = new ConnectorRouter();
            // A round makes at most 19 calls: digest() before and behind, and up to 17 that type a command.
            for (int calls = 0; calls + 19 <= 512; calls += made + 2) {
                int method = random.nextInt(28);
                long before = x.digest();
                long answer;
                made = 1;
                try {
                    answer = call(x, method, random);
                } catch (RuntimeException e) {
                    wrong++;
                    System.out.println("seed " + seed + ", method " + method + " throws " + e);
                    continue;
                }
                boolean isError = method != 27 && answer < -1000 && answer >= -1004;
                if (isError && x.digest() != before) {
                    wrong++;
                    System.out.println("seed " + seed + ", method " + method + " answers an error and changes");
                }
            }
        }
        System.out.println(wrong == 0 ? "no call throws" : wrong + " calls are wrong");
        if (wrong != 0) {
            System.exit(1);
        }
    }

    /** An int that is often small, sometimes an edge, and now and then any int. */
    private static int any(Random random) {
        int kind = random.nextInt(12);
        if (kind < 5) {
            return random.nextInt(5);
        }
        if (kind < 10) {
            return random.nextInt(100);
        }
        return kind == 10 ? EDGES[random.nextInt(EDGES.length)] : random.nextInt();
    }

    private static long call(ConnectorRouter x, int method, Random random) {
        int a = any(random), b = any(random), c = any(random), d = any(random), e = any(random), f = any(random);
        switch (method) {
            case 0: return x.addBox(a, b, c, d);
            case 1: return x.moveBox(a, b, c);
            case 2: return x.box(a, b);
            case 3: return x.blocker(a, b);
            case 4: return x.link(a, b, c, d, e, f);
            case 5: return random.nextInt(4) == 0 ? x.drop(a) : x.link(a & 1, b & 3, c & 3, d & 1, e & 3, f & 3);
            case 6: return x.setPenalty(a);
            case 7: return x.count(a);
            case 8: return x.connector(a, b);
            case 9: return x.route(a);
            case 10: return x.routeAll();
            case 11: return x.reroute();
            case 12: return x.refresh();
            case 13: return x.best(a);
            case 14: return x.measure(a, b);
            case 15: return x.corner(a, b, c);
            case 16: return x.isOn(a, b, c);
            case 17: return x.crossings(a, b);
            case 18: return x.shared(a, b);
            case 19: return x.lane(a, b, c);
            case 20: return x.write(a);
            case 21: return x.written(a);
            case 22: return random.nextBoolean() ? x.type(a) : typeCommand(x, random);
            case 23: return random.nextInt(4) == 0 ? x.clearText() : x.run();
            case 24: return x.textFault();
            case 25: return x.run();
            case 26: return random.nextInt(4) == 0 ? x.undo() : x.routeAll();
            default: return x.digest();
        }
    }

    private static int typeCommand(ConnectorRouter x, Random random) {
        String[] parts = {"all", "box 10 10 20 20", "box 40 40 50 60", "link 0 0 0 1 1 1", "route 0", "penalty 7",
            "drop 0", ";", " ", ";all;", "999", "zzz"};
        String part = parts[random.nextInt(parts.length)];
        if (random.nextInt(3) == 0) {
            x.clearText();
        }
        int length = 0;
        for (int i = 0; i < part.length(); i++) {
            length = x.type(part.charAt(i));
        }
        made = part.length() + 1;
        return length;
    }
}
