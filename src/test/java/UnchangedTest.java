import java.util.function.Supplier;

/**
 * "What is refused changes nothing", "TRIED; nothing changes by it": each refusal of each call, and each call that only
 * asks, on one of two objects with the same history. Also the order of the refusals: UNKNOWN, OUTSIDE, NOT, FULL.
 */
public final class UnchangedTest {
    private static final int LEAST = Integer.MIN_VALUE, MOST = Integer.MAX_VALUE;
    private static final int UNKNOWN = Check.UNKNOWN, OUTSIDE = Check.OUTSIDE, NOT = Check.NOT, FULL = Check.FULL;
    private static final String FOUR = "s4;p0 9;p1 7;p2 5;p0 2;c0 1 2;c1 2 3;c0 3 9;c2 3 1;";

    public static void main(String[] args) {
        new UnchangedTest("new", GossipArches::new).withoutPlaces();
        new UnchangedTest("new, with letters", UnchangedTest::halfTold).withoutPlaces();
        new UnchangedTest("M alone", UnchangedTest::roomAlone).withoutPlaces();
        new UnchangedTest("midway", UnchangedTest::midway).withFourPlaces();
        new UnchangedTest("midway", UnchangedTest::midway).asking();
        new UnchangedTest("midway, no letters", UnchangedTest::midwayWithoutLetters).faults();
        new UnchangedTest("full", UnchangedTest::full).faults();
        new UnchangedTest("full", UnchangedTest::full).whenFull();
        new UnchangedTest("full text", UnchangedTest::fullText).whenTextIsFull();
        Check.end();
    }

    private final String name;
    private final Supplier<GossipArches> state;

    private UnchangedTest(String name, Supplier<GossipArches> state) {
        this.name = name;
        this.state = state;
    }

    // ---- the histories

    private static GossipArches halfTold() {
        GossipArches x = new GossipArches();
        x.seed(5);
        Check.feed(x, "s5;p0 9");
        return x;
    }

    private static GossipArches roomAlone() {
        GossipArches x = Check.made("s5;");
        Check.feed(x, "s6;p1 8;");
        return x;
    }

    /** Something of all there is: an image, changes to undo, drips, a book, letters, a fault told earlier. */
    private static GossipArches midway() {
        GossipArches x = midwayWithoutLetters();
        Check.feed(x, "s9;p2 8");
        return x;
    }

    private static GossipArches midwayWithoutLetters() {
        GossipArches x = Check.made(FOUR);
        Check.feed(x, "s1;x");
        x.works();
        x.seed(77);
        x.letIn(3);
        x.hour(1);
        x.keep(0);
        x.gate(2, true);
        x.crack(1, 3);
        x.letIn(5);
        x.hour(3);
        x.clear(0);
        x.letIn(128);
        x.drift(2);
        x.letIn(64);
        x.drip(3, 0, 2);
        x.drip(2, 0, 5);
        x.write(0, 7);
        x.write(1, 3);
        return x;
    }

    /** No room for hours, drips, entries; more than 20 changes; both images kept. */
    private static GossipArches full() {
        GossipArches x = Check.made("s3;p0 9;p0 8;c0 1 2;");
        x.letIn(1);
        x.keep(0);
        for (int i = 0; i < 150; i++) {
            x.hour(60);
        }
        x.keep(1);
        x.letIn(6);
        x.hour(1);
        // open at last, so that what drips fits
        for (int i = 0; i < 26; i++) {
            x.gate(0, i % 2 == 0);
        }
        for (int i = 0; i < 6; i++) {
            x.drip(1, i, 2);
        }
        for (int i = 0; i < 15; i++) {
            x.write(1, 1);
        }
        return x;
    }

    private static GossipArches fullText() {
        GossipArches x = Check.made("s1;p0 1;");
        x.letIn(9);
        Check.feed(x, "s2;p0 5;p0 4;" + " ".repeat(240 - 13));
        return x;
    }

    // ---- what each history refuses

    private void refused(String call, int due, Deed deed) {
        GossipArches touched = state.get();
        GossipArches left = state.get();
        Check.same(name + ": " + call, deed.on(touched), due);
        Watch.alike(name + ": " + call, touched, left);
    }

    private void asked(String call, Deed deed) {
        GossipArches touched = state.get();
        GossipArches left = state.get();
        int answer = deed.on(touched);
        Check.same(name + ": " + call + " again", deed.on(touched), answer);
        Check.holds(name + ": " + call + " is not refused", answer >= -1);
        Watch.alike(name + ": " + call, touched, left);
    }

    /** Numbers that are out of the bounds of all calls, whatever is so. */
    private void whatIsAlwaysRefused() {
        for (int far : new int[] {LEAST, -1000000001, -1, 256, 1000000000, MOST}) {
            refused("feed " + far, OUTSIDE, x -> x.feed(far));
            refused("told " + far, OUTSIDE, x -> x.told(far));
            refused("letIn " + far, OUTSIDE, x -> x.letIn(far));
            refused("hour " + far, OUTSIDE, x -> x.hour(far));
            refused("drift " + far, OUTSIDE, x -> x.drift(far));
            refused("keep " + far, UNKNOWN, x -> x.keep(far));
            refused("goBack " + far, UNKNOWN, x -> x.goBack(far));
            refused("gate " + far, UNKNOWN, x -> x.gate(far, true));
            refused("gate open " + far, UNKNOWN, x -> x.gate(far, false));
            refused("clear " + far, UNKNOWN, x -> x.clear(far));
            refused("crack in " + far, UNKNOWN, x -> x.crack(far, -1));
            refused("place " + far, UNKNOWN, x -> x.place(far, far));
            refused("channel " + far, UNKNOWN, x -> x.channel(far, far));
            refused("first " + far, UNKNOWN, x -> x.first(far, 0));
            refused("hears " + far, UNKNOWN, x -> x.hears(far, far));
            refused("soonest " + far, UNKNOWN, x -> x.soonest(far, far));
            refused("gates " + far, UNKNOWN, x -> x.gates(far, far, far));
            refused("cut " + far, UNKNOWN, x -> x.cut(far, far, far));
            refused("meet " + far, UNKNOWN, x -> x.meet(far, 0, far));
            refused("meet with " + far, UNKNOWN, x -> x.meet(0, far, 0));
            refused("meet at " + far, OUTSIDE, x -> x.meet(0, 1, far));
            refused("longest " + far, UNKNOWN, x -> x.longest(far));
            refused("ways " + far, UNKNOWN, x -> x.ways(far));
            refused("share " + far, UNKNOWN, x -> x.share(far));
            refused("frost " + far, OUTSIDE, x -> x.frost(far, 0));
            refused("frost by " + far, OUTSIDE, x -> x.frost(0, far));
            refused("drip " + far, UNKNOWN, x -> x.drip(far, 0, far));
            refused("cracked " + far, UNKNOWN, x -> x.cracked(far));
            refused("listen " + far, UNKNOWN, x -> x.listen(far));
            refused("write " + far, UNKNOWN, x -> x.write(far, far));
        }
        for (int below : new int[] {LEAST, -1000000001, -1}) {
            refused("seed " + below, OUTSIDE, x -> x.seed(below));
        }
        refused("told 11", OUTSIDE, x -> x.told(11));
        refused("letIn 0", OUTSIDE, x -> x.letIn(0));
        refused("hour 0", OUTSIDE, x -> x.hour(0));
        refused("hour 61", OUTSIDE, x -> x.hour(61));
        refused("drift 0", OUTSIDE, x -> x.drift(0));
        refused("drift 61", OUTSIDE, x -> x.drift(61));
        refused("frost 61", OUTSIDE, x -> x.frost(61, 0));
        refused("frost by 101", OUTSIDE, x -> x.frost(0, 101));
        refused("meet at 31", OUTSIDE, x -> x.meet(0, 1, 31));
        refused("meet itself", UNKNOWN, x -> x.meet(4, 4, 0));
        refused("meet itself at 31", UNKNOWN, x -> x.meet(4, 4, 31));
        refused("meet 8", UNKNOWN, x -> x.meet(8, 0, 31));
        refused("meet with 8", UNKNOWN, x -> x.meet(0, 8, 31));
        refused("keep 2", UNKNOWN, x -> x.keep(2));
        refused("goBack 2", UNKNOWN, x -> x.goBack(2));
    }

    private void withoutPlaces() {
        whatIsAlwaysRefused();
        refused("letIn 1", NOT, x -> x.letIn(1));
        refused("letIn 255", NOT, x -> x.letIn(255));
        refused("hour 1", NOT, x -> x.hour(1));
        refused("hour 60", NOT, x -> x.hour(60));
        refused("drift 1", NOT, x -> x.drift(1));
        refused("drift 60", NOT, x -> x.drift(60));
        refused("undo", NOT, x -> x.undo());
        refused("goBack 0", NOT, x -> x.goBack(0));
        refused("goBack 1", NOT, x -> x.goBack(1));
        refused("place 0", UNKNOWN, x -> x.place(0, 0));
        refused("channel 0", UNKNOWN, x -> x.channel(0, 0));
        refused("first 0", UNKNOWN, x -> x.first(0, 0));
        refused("gate 0", UNKNOWN, x -> x.gate(0, true));
        refused("clear 0", UNKNOWN, x -> x.clear(0));
        refused("crack 0", UNKNOWN, x -> x.crack(0, -1));
        refused("hears at 0", UNKNOWN, x -> x.hears(1, 0));
        refused("soonest at 0", UNKNOWN, x -> x.soonest(1, 0));
        refused("gates at 0", UNKNOWN, x -> x.gates(0, 0, 0));
        refused("cut at 0", UNKNOWN, x -> x.cut(0, 0, 0));
        refused("longest to 0", UNKNOWN, x -> x.longest(0));
        refused("ways to 0", UNKNOWN, x -> x.ways(0));
        refused("share of 0", UNKNOWN, x -> x.share(0));
        refused("drip at 0", UNKNOWN, x -> x.drip(0, 0, 0));
        refused("cracked to 0", UNKNOWN, x -> x.cracked(0));
        refused("listen to 0", UNKNOWN, x -> x.listen(0));
        refused("write at 0", UNKNOWN, x -> x.write(0, 0));
        asked("meet", x -> x.meet(0, 7, 30));
        asked("firstBlocked", GossipArches::firstBlocked);
        asked("frost", x -> x.frost(60, 100));
        asked("judge", GossipArches::judge);
        asked("fault", GossipArches::fault);
    }

    /** Places 0 .. 3, channels 0 .. 3; image 0 is kept, image 1 is not. */
    private void withFourPlaces() {
        whatIsAlwaysRefused();
        refused("goBack 1", NOT, x -> x.goBack(1));
        refused("place 4", UNKNOWN, x -> x.place(4, 3));
        refused("place 3 3", OUTSIDE, x -> x.place(3, 3));
        refused("place 3 -1", OUTSIDE, x -> x.place(3, -1));
        refused("channel 4", UNKNOWN, x -> x.channel(4, 6));
        refused("channel 3 6", OUTSIDE, x -> x.channel(3, 6));
        refused("channel 3 -1", OUTSIDE, x -> x.channel(3, -1));
        refused("first at 4", UNKNOWN, x -> x.first(4, 7));
        refused("first of 8", UNKNOWN, x -> x.first(3, 8));
        refused("first of -1", UNKNOWN, x -> x.first(3, -1));
        refused("gate 4", UNKNOWN, x -> x.gate(4, true));
        refused("clear 4", UNKNOWN, x -> x.clear(4));
        refused("crack in 4", UNKNOWN, x -> x.crack(4, 3));
        refused("crack to 4", UNKNOWN, x -> x.crack(1, 4));
        refused("crack to -2", UNKNOWN, x -> x.crack(1, -2));
        refused("crack to the least", UNKNOWN, x -> x.crack(1, LEAST));
        refused("mend 4", UNKNOWN, x -> x.crack(4, -1));
        for (int p : new int[] {-1, 4}) {
            refused("hears at " + p, UNKNOWN, x -> x.hears(256, p));
            refused("soonest at " + p, UNKNOWN, x -> x.soonest(-1, p));
            refused("gates at " + p, UNKNOWN, x -> x.gates(p, 0, 0));
            refused("cut at " + p, UNKNOWN, x -> x.cut(p, 0, 2));
            refused("longest to " + p, UNKNOWN, x -> x.longest(p));
            refused("ways to " + p, UNKNOWN, x -> x.ways(p));
            refused("share of " + p, UNKNOWN, x -> x.share(p));
            refused("drip at " + p, UNKNOWN, x -> x.drip(p, 0, 61));
            refused("cracked to " + p, UNKNOWN, x -> x.cracked(p));
            refused("listen to " + p, UNKNOWN, x -> x.listen(p));
            refused("write at " + p, UNKNOWN, x -> x.write(p, 256));
        }
        for (int t : new int[] {-1, 8, LEAST, MOST}) {
            refused("gates of " + t, UNKNOWN, x -> x.gates(3, t, 0));
            refused("cut of " + t, UNKNOWN, x -> x.cut(3, t, 2));
            refused("drip of " + t, UNKNOWN, x -> x.drip(3, t, 61));
        }
        for (int others : new int[] {16, 31, -1, LEAST, MOST}) {
            refused("gates, others " + others, UNKNOWN, x -> x.gates(0, 0, others));
        }
        for (int set : new int[] {-1, 256, LEAST, MOST}) {
            refused("hears " + set, OUTSIDE, x -> x.hears(set, 3));
            refused("soonest " + set, OUTSIDE, x -> x.soonest(set, 3));
            refused("write " + set, OUTSIDE, x -> x.write(3, set));
        }
        for (int hour : new int[] {-1, 61, 98, 100, LEAST, MOST}) {
            refused("drip at hour " + hour, OUTSIDE, x -> x.drip(3, 7, hour));
        }
        for (int what : new int[] {-1, 2, LEAST, MOST}) {
            refused("cut what " + what, OUTSIDE, x -> x.cut(3, 7, what));
        }
    }

    private void asking() {
        for (int what = 0; what <= 10; what++) {
            int w = what;
            asked("told " + w, x -> x.told(w));
        }
        for (int place = 0; place < 4; place++) {
            int p = place;
            asked("place " + p, x -> x.place(p, 2));
            asked("channel " + p, x -> x.channel(p, 5));
            asked("first " + p, x -> x.first(p, 7));
            asked("hears at " + p, x -> x.hears(255, p));
            asked("hears nothing at " + p, x -> x.hears(0, p));
            asked("soonest at " + p, x -> x.soonest(255, p));
            asked("gates at " + p, x -> x.gates(p, 0, 15));
            asked("gates alone at " + p, x -> x.gates(p, 7, 0));
            asked("cut at " + p, x -> x.cut(p, 7, 1));
            asked("longest to " + p, x -> x.longest(p));
            asked("ways to " + p, x -> x.ways(p));
            asked("share of " + p, x -> x.share(p));
            asked("cracked to " + p, x -> x.cracked(p));
            asked("listen to " + p, x -> x.listen(p));
        }
        asked("meet", x -> x.meet(0, 7, 0));
        asked("meet later", x -> x.meet(7, 0, 30));
        asked("firstBlocked", GossipArches::firstBlocked);
        asked("frost", x -> x.frost(60, 1));
        asked("judge", GossipArches::judge);
        asked("fault", GossipArches::fault);
    }

    /** works(): "-10 less the number of its FAULT (all else is as it was)"; the text alone is empty then. */
    private void faults() {
        String[] texts = {"x", "s1;p0 9;p0 8;c0 1 1;c", "s0;", "s1;p0 9;c0 1 1;", "s1;p0 9;s", "s1;p0 9;p0 9;c0 1 1;"};
        int[] due = {-11, -11, -12, -12, -13, -14};
        for (int i = 0; i < texts.length; i++) {
            GossipArches touched = state.get();
            GossipArches left = state.get();
            Check.feed(touched, texts[i]);
            Check.same(name + ": works of '" + texts[i] + "'", touched.works(), due[i]);
            Watch.alikeButFault(name + ": the fault of '" + texts[i] + "'", touched, left);
        }
    }

    /** Hours are 9001, drips 6, entries 15, changes 20; one channel, two places. */
    private void whenFull() {
        whatIsAlwaysRefused();
        refused("hour 1", FULL, x -> x.hour(1));
        refused("hour 60", FULL, x -> x.hour(60));
        refused("drift 1", FULL, x -> x.drift(1));
        refused("drift 60", FULL, x -> x.drift(60));
        refused("a seventh drip", FULL, x -> x.drip(0, 0, 0));
        refused("a seventh drip, never", FULL, x -> x.drip(1, 7, 99));
        refused("a seventh drip at 2", UNKNOWN, x -> x.drip(2, 0, 0));
        refused("a seventh drip of 8", UNKNOWN, x -> x.drip(0, 8, 61));
        refused("a seventh drip at hour 61", OUTSIDE, x -> x.drip(0, 0, 61));
        refused("a sixteenth entry", FULL, x -> x.write(0, 0));
        refused("a sixteenth entry, all", FULL, x -> x.write(1, 255));
        refused("a sixteenth entry at 2", UNKNOWN, x -> x.write(2, 0));
        refused("a sixteenth entry of 256", OUTSIDE, x -> x.write(0, 256));
        refused("gate 1", UNKNOWN, x -> x.gate(1, true));
        refused("crack to 2", UNKNOWN, x -> x.crack(0, 2));
        asked("firstBlocked", GossipArches::firstBlocked);
        asked("hears", x -> x.hears(255, 1));
        asked("soonest", x -> x.soonest(255, 1));
    }

    private void whenTextIsFull() {
        refused("a 241st letter", FULL, x -> x.feed(32));
        refused("a 241st letter, 0", FULL, x -> x.feed(0));
        refused("a 241st letter, 255", FULL, x -> x.feed(255));
        refused("a 241st letter, -1", OUTSIDE, x -> x.feed(-1));
        refused("a 241st letter, 256", OUTSIDE, x -> x.feed(256));
        refused("goBack 0", NOT, x -> x.goBack(0));
    }
}
