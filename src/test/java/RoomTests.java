import java.lang.management.ManagementFactory;

/**
 * The dearest runs of 512 calls stay far below the room that a run has: 600,000 objects and 7.3 million
 * fields and elements. A run that makes fewer bytes than the limit here can hold no more than that.
 */
public final class RoomTests {
    private static final long MOST_BYTES = 4_000_000L;

    private static int wrong = 0;

    public static void main(String[] args) {
        int[] kinds = {0, 1, 2, 3};
        for (int kind : kinds) {
            spend(kind); // once before, so that what the machine makes for itself is not counted
            long before = allocated();
            spend(kind);
            long made = allocated() - before;
            System.out.println("kind " + kind + " makes " + made + " bytes");
            if (made > MOST_BYTES) {
                wrong++;
                System.out.println("kind " + kind + " makes more than " + MOST_BYTES);
            }
        }
        if (wrong != 0) {
            System.exit(1);
        }
    }

    private static long allocated() {
        com.sun.management.ThreadMXBean bean =
            (com.sun.management.ThreadMXBean) ManagementFactory.getThreadMXBean();
        return bean.getThreadAllocatedBytes(Thread.currentThread().getId());
    }

    private static ConnectorRouter crowded() {
        ConnectorRouter x = new ConnectorRouter();
        for (int i = 0; i < 8; i++) {
            x.addBox(5 + 22 * (i % 4), 10 + 11 * i, 15 + 22 * (i % 4), 18 + 11 * i);
        }
        for (int i = 0; i < 10; i++) {
            x.link(i % 8, i % 4, i % 5, (3 * i + 1) % 8, (i + 1) % 4, 4);
        }
        return x;
    }

    private static void spend(int kind) {
        ConnectorRouter x = crowded();
        int left = 512 - 18;
        if (kind == 3) {
            left -= type(x, "penalty 0;all;penalty 9;all;penalty 0;all;penalty 9;all;penalty 0;all;penalty 9;all;"
                + "penalty 0;all;penalty 9;all");
        }
        for (int i = 0; i < left; i++) {
            switch (kind) {
                case 0:
                    if (i % 2 == 0) {
                        x.setPenalty(i % 51);
                    } else {
                        x.routeAll();
                    }
                    break;
                case 1:
                    if (i % 2 == 0) {
                        x.moveBox(i % 8, i % 3 - 1, 0);
                    } else {
                        x.refresh();
                    }
                    break;
                case 2:
                    if (i == 0) {
                        x.routeAll();
                    }
                    x.lane(i % 10, 1 + i % 3, 3);
                    x.write(i % 10);
                    x.count(5);
                    break;
                default:
                    x.run();
                    break;
            }
        }
    }

    private static int type(ConnectorRouter x, String text) {
        for (int i = 0; i < text.length(); i++) {
            x.type(text.charAt(i));
        }
        if (x.textFault() != ConnectorRouter.NONE) {
            wrong++;
            System.out.println("the text has a fault at " + x.textFault());
        }
        return text.length();
    }
}
