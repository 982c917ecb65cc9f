/** What the tests share: answers are compared, faults are counted, the end tells by its exit code. */
final class Check {
    static final int NONE = -1, UNKNOWN = -1000000001, OUTSIDE = -1000000002, NOT = -1000000003, FULL = -1000000004;
    /** The works of most tests: a tank (2), a tap (4), basins (3, 5, 6). */
    static final String QUARTER =
        "s5;p0 90;p0 80;p1 70;p2 50;p3 40;p2 20;p2 30;c0 1 2;c1 2 3;c1 3 4;c2 4 1;c2 6 2;c4 5 1;c3 5 6;";
    private static int wrong = 0;
    private static int compared = 0;

    private Check() {
    }

    static void same(String what, int got, int want) {
        compared++;
        if (got != want) {
            wrong++;
            System.out.println(what + ": answered " + got + ", due is " + want);
        }
    }

    static void holds(String what, boolean is) {
        same(what, is ? 1 : 0, 1);
    }

    static void feed(GossipArches x, String text) {
        for (int i = 0; i < text.length(); i++) {
            x.feed(text.charAt(i));
        }
    }

    static GossipArches made(String text) {
        GossipArches x = new GossipArches();
        feed(x, text);
        int answer = x.works();
        holds("the works are without fault: " + text, answer >= 0);
        return x;
    }

    static int wrongSoFar() {
        return wrong;
    }

    static void end() {
        System.out.println(compared + " answers compared, " + wrong + " wrong");
        if (wrong != 0) {
            System.exit(1);
        }
    }
}
