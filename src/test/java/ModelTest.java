import java.util.Random;

/** Promises 1 to 35 at once: many runs of drawn calls, each answer beside that of the slow twin. */
public final class ModelTest {
    private static final int RUNS = 600, CALLS = 512;
    private static final int FAULTS_SHOWN = 20;

    public static void main(String[] args) {
        for (int run = 0; run < RUNS && Check.wrongSoFar() < FAULTS_SHOWN; run++) {
            new ModelTest(run).play();
        }
        Check.end();
    }

    private final int run;
    private final Random random;
    private final GossipArches x = new GossipArches();
    private final SlowArches y = new SlowArches();
    private int calls = 0;

    private ModelTest(int run) {
        this.run = run;
        this.random = new Random(4711L + run);
    }

    private void play() {
        while (calls < CALLS) {
            if (calls == 0 || random.nextInt(150) == 0) {
                tell(random.nextInt(4) == 0 ? spoiled(drawnText()) : drawnText());
            } else {
                call(random.nextInt(33));
            }
        }
    }

    private void same(String what, int got, int want) {
        calls++;
        Check.same("run " + run + ", call " + calls + ": " + what, got, want);
    }

    private void tell(String text) {
        for (int i = 0; i < text.length(); i++) {
            same("feed", x.feed(text.charAt(i)), y.feed(text.charAt(i)));
        }
        same("works of '" + text + "'", x.works(), y.works());
        same("fault of '" + text + "'", x.fault(), y.fault());
    }

    private String gap() {
        return random.nextInt(12) == 0 ? " " : "";
    }

    private String drawnText() {
        StringBuilder text = new StringBuilder();
        int room = random.nextInt(3) == 0 ? 1 + random.nextInt(4) : 1 + random.nextInt(99);
        text.append(gap()).append("s").append(gap()).append(room).append(gap()).append(";");
        int places = 1 + random.nextInt(8);
        int[] level = new int[places];
        for (int p = 0; p < places; p++) {
            level[p] = p == 0 ? 80 + random.nextInt(20) : random.nextInt(90);
            int kind = random.nextInt(3) == 0 ? random.nextInt(4) : 0;
            text.append("p").append(gap()).append(kind).append(" ").append(level[p]).append(gap()).append(";");
        }
        boolean[] told = new boolean[64];
        int channels = 0;
        for (int i = 0; i < 40 && channels < 10; i++) {
            int a = random.nextInt(places);
            int b = random.nextInt(places);
            if (level[b] < level[a] && !told[a * 8 + b]) {
                told[a * 8 + b] = true;
                channels++;
                int h = random.nextInt(2) == 0 ? 9 - random.nextInt(3) : 1 + random.nextInt(9);
                text.append("c").append(a).append(" ").append(b).append(" ").append(h).append(gap()).append(";");
            }
        }
        return text.toString();
    }

    /** A letter of the text is changed, left out or put in, or its end is. */
    private String spoiled(String text) {
        String letters = "spc;;0123456789  xn9\t";
        char letter = letters.charAt(random.nextInt(letters.length()));
        int at = random.nextInt(text.length());
        switch (random.nextInt(4)) {
            case 0: return text.substring(0, at) + letter + text.substring(at + 1);
            case 1: return text.substring(0, at) + text.substring(at + 1);
            case 2: return text.substring(0, at) + letter + text.substring(at);
            default: return text.substring(0, at);
        }
    }

    /** Mostly within 0 .. bound less 1, sometimes beside it, or far from it. */
    private int near(int bound) {
        int[] far = {Integer.MIN_VALUE, Integer.MAX_VALUE, random.nextInt(), -1, bound, 1 << 30, -(1 << 30)};
        switch (random.nextInt(24)) {
            case 0: return random.nextInt(bound + 4) - 2;
            case 1: return far[random.nextInt(far.length)];
            default: return random.nextInt(Math.max(bound, 1));
        }
    }

    private int p() {
        return near(x.told(1));
    }

    private int c() {
        return near(x.told(2));
    }

    private int t() {
        return near(8);
    }

    private int set() {
        return random.nextInt(3) == 0 ? 1 << random.nextInt(8) : near(256);
    }

    private void call(int which) {
        if (which < 17) {
            doSomething(which);
        } else {
            trySomething(which);
        }
        if (random.nextInt(40) == 0) {
            compareAll();
        }
    }

    private void doSomething(int which) {
        int a;
        int b;
        switch (which) {
            case 0: case 1: case 2: a = set(); same("letIn " + a, x.letIn(a), y.letIn(a)); break;
            case 3: case 4: case 5: a = hours(); same("hour " + a, x.hour(a), y.hour(a)); break;
            case 6: a = c(); b = random.nextInt(3); same("gate " + a, x.gate(a, b == 0), y.gate(a, b == 0)); break;
            case 7: a = c(); same("clear " + a, x.clear(a), y.clear(a)); break;
            case 8: a = c(); b = random.nextBoolean() ? -1 : p(); same("crack " + a + " " + b, x.crack(a, b), y.crack(a, b)); break;
            case 9: if (random.nextInt(3) == 0) same("empty", x.empty(), y.empty()); break;
            case 10: case 11: a = hours(); same("drift " + a, x.drift(a), y.drift(a)); break;
            case 12: for (a = random.nextInt(5); a >= 0; a--) same("undo", x.undo(), y.undo()); break;
            case 13: a = random.nextInt(); same("seed " + a, x.seed(a), y.seed(a)); break;
            case 14: a = near(2); if (random.nextInt(3) == 0) same("keep " + a, x.keep(a), y.keep(a)); break;
            case 15: a = near(2); if (random.nextInt(3) == 0) same("goBack " + a, x.goBack(a), y.goBack(a)); break;
            default: if (random.nextInt(6) == 0) same("tear", x.tear(), y.tear()); break;
        }
    }

    private int hours() {
        return random.nextInt(4) == 0 ? near(62) : 1 + random.nextInt(6);
    }

    private void trySomething(int which) {
        int a = p();
        int b = t();
        int d;
        switch (which) {
            case 17: d = set(); same("hears " + d + " " + a, x.hears(d, a), y.hears(d, a)); break;
            case 18: d = set(); same("soonest " + d + " " + a, x.soonest(d, a), y.soonest(d, a)); break;
            case 19: d = near(1 << x.told(1)); if (random.nextInt(3) == 0) d &= d >> 1;
                same("gates " + a + " " + b + " " + d, x.gates(a, b, d), y.gates(a, b, d)); break;
            case 20: d = near(2); same("cut " + a + " " + b + " " + d, x.cut(a, b, d), y.cut(a, b, d)); break;
            case 21: a = t(); d = near(31); same("meet " + a + " " + b + " " + d, x.meet(a, b, d), y.meet(a, b, d)); break;
            case 22: same("longest " + a, x.longest(a), y.longest(a)); break;
            case 23: same("ways " + a, x.ways(a), y.ways(a)); break;
            case 24: same("firstBlocked", x.firstBlocked(), y.firstBlocked()); break;
            case 25: same("share " + a, x.share(a), y.share(a)); break;
            case 26: a = near(61); d = near(101); same("frost " + a + " " + d, x.frost(a, d), y.frost(a, d)); break;
            case 27: dripSomething(a, b); break;
            case 28: same("cracked " + a, x.cracked(a), y.cracked(a)); break;
            case 29: same("listen " + a, x.listen(a), y.listen(a)); break;
            case 30: d = random.nextBoolean() ? Math.max(x.place(a, 2), 0) : set();
                same("write " + a + " " + d, x.write(a, d), y.write(a, d)); break;
            case 31: same("judge", x.judge(), y.judge()); break;
            default: a = near(11); same("told " + a, x.told(a), y.told(a)); break;
        }
    }

    /** Mostly hours that fit as it is: drawn ones would hardly ever fit. */
    private void dripSomething(int p, int t) {
        int hour = random.nextInt(4) == 0 ? near(62) : y.soonest(1 << (t & 7), p);
        if (hour < 0) {
            hour = 99;
        }
        same("drip " + p + " " + t + " " + hour, x.drip(p, t, hour), y.drip(p, t, hour));
    }

    private void compareAll() {
        for (int what = -1; what <= 11; what++) {
            same("told " + what, x.told(what), y.told(what));
        }
        for (int p = 0; p < x.told(1); p++) {
            for (int what = 0; what <= 3; what++) {
                same("place " + p + " " + what, x.place(p, what), y.place(p, what));
            }
            for (int t = 0; t < 8; t++) {
                same("first " + p + " " + t, x.first(p, t), y.first(p, t));
            }
        }
        for (int c = 0; c < x.told(2); c++) {
            for (int what = 0; what <= 6; what++) {
                same("channel " + c + " " + what, x.channel(c, what), y.channel(c, what));
            }
        }
    }
}
