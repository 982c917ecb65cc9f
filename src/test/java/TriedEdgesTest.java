/**
 * The bounds of what is tried (section 3, promises 17 to 26), each on both sides. Every method stands for a sentence of
 * the document.
 */
public final class TriedEdgesTest {
    private static final int BILLION = 1000000000;
    private static final String EIGHT = "s1;p0 9;p0 8;p0 7;p0 6;p0 5;p0 4;p0 3;p0 2;";
    private static final String TEN = EIGHT + "c0 1 1;c0 2 1;c0 3 1;c0 4 1;c0 5 1;c0 6 1;c0 7 1;c1 2 1;c1 3 1;c1 4 1;";
    private static final String PAIR = "s99;p0 9;p0 8;c0 1 1;";

    public static void main(String[] args) {
        setsTriedAre0To255();
        triedWithoutSiltOrHearings();
        triedWithGatesAndCracksAsNow();
        triedSetsFillChannels();
        hoursGoByFrom0To60();
        nobodyHearsBehindHour60();
        gatesAndPlacesThatThereAre();
        gatesTheFewestThenTheLeast();
        gatesNone();
        gatesWhateverM();
        cutBothAnswers();
        cutNone();
        meetSayingsThatThereAre();
        meetAt0To30();
        meetByHour60();
        meetWhateverM();
        meetNone();
        longestNone();
        waysNone();
        blockedFirstIn99Hours();
        blockedFirstIsNotBlockedNow();
        blockedFirstOfLikeOnesTheLeast();
        blockedFirstNone();
        sharesAreCut();
        sharesOfNothing();
        frostOf0To60Hours();
        frostIsCutEachTime();
        Check.end();
    }

    /** A run of six nines, then h hours to place 7: hour 54 and h. */
    private static String chain(int h) {
        return EIGHT + "c0 1 9;c1 2 9;c2 3 9;c3 4 9;c4 5 9;c5 6 9;c6 7 " + h + ";";
    }

    // ---- hears, soonest

    private static void setsTriedAre0To255() {
        GossipArches x = Check.made(PAIR);
        Check.same("hears -1", x.hears(-1, 1), Check.OUTSIDE);
        Check.same("hears 0", x.hears(0, 1), 0);
        Check.same("hears 1", x.hears(1, 1), 1);
        Check.same("hears 255", x.hears(255, 1), 255);
        Check.same("hears 256", x.hears(256, 1), Check.OUTSIDE);
        Check.same("soonest -1", x.soonest(-1, 1), Check.OUTSIDE);
        Check.same("soonest 0: never", x.soonest(0, 1), Check.NONE);
        Check.same("soonest 0 at the spring: never", x.soonest(0, 0), Check.NONE);
        Check.same("soonest 1", x.soonest(1, 1), 1);
        Check.same("soonest 255", x.soonest(255, 0), 0);
        Check.same("soonest 256", x.soonest(256, 1), Check.OUTSIDE);
        Check.same("hears at -1", x.hears(1, -1), Check.UNKNOWN);
        Check.same("hears at 2", x.hears(1, 2), Check.UNKNOWN);
        Check.same("soonest at -1", x.soonest(1, -1), Check.UNKNOWN);
        Check.same("soonest at 2", x.soonest(1, 2), Check.UNKNOWN);
        Check.same("unknown ahead of outside", x.hears(256, 2), Check.UNKNOWN);
        Check.same("unknown ahead of outside, soonest", x.soonest(-1, -1), Check.UNKNOWN);
    }

    private static void triedWithoutSiltOrHearings() {
        GossipArches x = Check.made("s1;p0 9;p0 8;p0 7;c0 1 1;c1 2 1;");
        x.letIn(1);
        x.hour(9);
        Check.same("both are blocked", x.told(6), 3);
        Check.same("heard at 2 already", x.place(2, 2), 1);
        x.letIn(128);
        Check.same("silt is none", x.hears(6, 2), 6);
        Check.same("nothing is heard", x.hears(2, 2), 2);
        Check.same("nothing is on its way", x.hears(4, 0), 4);
        Check.same("hour 0", x.soonest(6, 2), 2);
        Check.same("silt is as it was", x.told(6), 3);
        x.letIn(255);
        Check.same("nothing waits at the spring", x.hears(0, 0), 0);
    }

    private static void triedWithGatesAndCracksAsNow() {
        GossipArches x = Check.made("s9;p0 9;p0 8;p0 7;c0 1 5;c1 2 5;");
        Check.same("open", x.soonest(1, 2), 10);
        x.crack(1, 0);
        Check.same("a crack to a place that has it", x.soonest(1, 0), 0);
        x.crack(1, 2);
        Check.same("a crack", x.soonest(1, 2), 5);
        x.crack(0, 2);
        Check.same("two cracks", x.soonest(1, 2), 0);
        x.gate(0, true);
        Check.same("shut: neither way nor crack", x.soonest(1, 2), Check.NONE);
        Check.same("shut: not heard", x.hears(255, 2), 0);
        Check.same("shut: the spring hears", x.hears(255, 0), 255);
    }

    private static void triedSetsFillChannels() {
        // place 2 gets what a tank lets by at hour 2, all at hour 3; c2 3 has room for M
        String text = ";p0 9;p1 8;p0 7;p0 6;c0 1 1;c1 2 1;c0 2 3;c2 3 1;";
        Check.same("M 2, two were ahead", Check.made("s2" + text).hears(7, 3), 5);
        Check.same("M 3, two were ahead", Check.made("s3" + text).hears(7, 3), 7);
        Check.same("M 1, one was ahead", Check.made("s1" + text).hears(3, 3), 1);
        Check.same("M 2, one was ahead", Check.made("s2" + text).hears(3, 3), 3);
        Check.same("M 1, none was ahead", Check.made("s1" + text).hears(2, 3), 2);
        Check.same("M 1, none was ahead: soonest", Check.made("s1" + text).soonest(2, 3), 4);
        Check.same("M 1, the first of both", Check.made("s1" + text).soonest(3, 3), 3);
    }

    private static void hoursGoByFrom0To60() {
        GossipArches by59 = Check.made(chain(5));
        GossipArches by60 = Check.made(chain(6));
        GossipArches by61 = Check.made(chain(7));
        Check.same("hour 0", by61.soonest(128, 0), 0);
        Check.same("hour 59", by59.soonest(128, 7), 59);
        Check.same("hour 59 is heard", by59.hears(128, 7), 128);
        Check.same("hour 60", by60.soonest(128, 7), 60);
        Check.same("hour 60 is heard", by60.hears(128, 7), 128);
        Check.same("hour 61", by61.soonest(128, 7), Check.NONE);
        Check.same("hour 61 is not heard", by61.hears(128, 7), 0);
        Check.same("hour 54", by61.soonest(128, 6), 54);
        by61.crack(6, 7);
        Check.same("dripped at hour 54", by61.soonest(128, 7), 54);
    }

    private static void nobodyHearsBehindHour60() {
        GossipArches by60 = Check.made(chain(6));
        GossipArches by61 = Check.made(chain(7));
        Check.same("gates, hour 60", by60.gates(7, 0, 0), 0);
        Check.same("gates, hour 61", by61.gates(7, 0, 0), Check.NONE);
        Check.same("others, hour 60", by60.gates(6, 0, 128), 64);
        Check.same("others, hour 61", by61.gates(6, 0, 128), 0);
        Check.same("cut, hour 60", by60.cut(7, 0, 0), 1);
        Check.same("cut, hour 60, the set", by60.cut(7, 0, 1), 1);
        Check.same("cut, hour 61", by61.cut(7, 0, 0), 0);
        Check.same("cut, hour 61, the set", by61.cut(7, 0, 1), 0);
        Check.same("longest knows no hour 60", by61.longest(7), 61);
        Check.same("ways know none", by61.ways(7), 1);
    }

    // ---- gates

    private static void gatesAndPlacesThatThereAre() {
        GossipArches x = Check.made(TEN);
        Check.same("at -1", x.gates(-1, 0, 0), Check.UNKNOWN);
        Check.same("at 0", x.gates(0, 0, 0), 0);
        Check.same("at 7", x.gates(7, 0, 0), 0);
        Check.same("at 8", x.gates(8, 0, 0), Check.UNKNOWN);
        Check.same("of -1", x.gates(0, -1, 0), Check.UNKNOWN);
        Check.same("of 7", x.gates(0, 7, 0), 0);
        Check.same("of 8", x.gates(0, 8, 0), Check.UNKNOWN);
        Check.same("others: the last place", x.gates(0, 0, 128), 64);
        Check.same("others: all but the spring", x.gates(0, 0, 254), 127);
        Check.same("others: all", x.gates(0, 0, 255), Check.NONE);
        Check.same("others: a ninth", x.gates(0, 0, 256), Check.UNKNOWN);
        Check.same("others: a ninth with others", x.gates(0, 0, 511), Check.UNKNOWN);
        Check.same("others: the sign", x.gates(0, 0, Integer.MIN_VALUE), Check.UNKNOWN);
        Check.same("others: -1", x.gates(0, 0, -1), Check.UNKNOWN);
        GossipArches y = Check.made(PAIR);
        Check.same("two places: the last", y.gates(0, 0, 2), 1);
        Check.same("two places: a third", y.gates(0, 0, 4), Check.UNKNOWN);
        GossipArches z = Check.made("s1;p0 1;");
        Check.same("one place: nobody else", z.gates(0, 0, 0), 0);
        Check.same("one place: a second", z.gates(0, 0, 2), Check.UNKNOWN);
    }

    private static void gatesTheFewestThenTheLeast() {
        // to 3 by channel 2 alone, though 0 and 1 are lesser numbers together
        GossipArches x = Check.made("s9;p0 9;p0 8;p0 7;p0 6;p0 5;c0 1 1;c0 2 1;c3 4 1;c1 3 1;c2 3 1;");
        Check.same("one of number 2, not two of 0 and 1", x.gates(3, 0, 16), 4);
        Check.same("two: of like ones the least", x.gates(0, 0, 8), 3);
        Check.same("one is left", x.gates(3, 0, 2), 1);
        Check.same("nobody", x.gates(3, 0, 0), 0);
        x.gate(0, true);
        Check.same("besides those that are", x.gates(0, 0, 8), 2);
        x.gate(1, true);
        Check.same("none besides", x.gates(0, 0, 8), 0);
        // the most that can be needed: nine of ten, so that 1 alone hears besides the spring
        Check.same("nine gates", Check.made(TEN).gates(1, 0, 252), 1022);
        // one of like ones, where the greater is told first
        GossipArches y = Check.made("s9;p0 9;p0 8;p0 7;c1 2 1;c0 1 1;");
        Check.same("the least number", y.gates(0, 0, 4), 1);
        Check.same("1 silent, too", y.gates(0, 0, 6), 2);
    }

    private static void gatesNone() {
        GossipArches x = Check.made("s9;p0 9;p0 8;p0 7;p1 6;p0 5;c0 1 1;c1 2 1;c0 3 1;c3 4 1;");
        Check.same("there is a way", x.gates(2, 0, 0), 0);
        Check.same("behind a tank, even", x.gates(4, 6, 0), 0);
        Check.same("behind a tank, odd", x.gates(4, 7, 0), Check.NONE);
        Check.same("the only way passes one of them", x.gates(2, 0, 2), Check.NONE);
        Check.same("one hears and does not", x.gates(2, 0, 4), Check.NONE);
        Check.same("the spring hears", x.gates(2, 0, 1), Check.NONE);
        x.gate(1, true);
        Check.same("the way is shut", x.gates(2, 0, 0), Check.NONE);
        x.gate(1, false);
        x.crack(0, 4);
        Check.same("a crack lets hear", x.gates(4, 7, 0), 0);
        Check.same("a crack cannot be shut alone", x.gates(1, 0, 16), Check.NONE);
        Check.same("a crack is shut with its channel", x.gates(3, 1, 16), 1);
    }

    private static void gatesWhateverM() {
        // to 1 at hours 2 and 3: M 1 would let only the first on
        GossipArches x = Check.made("s1;p0 9;p0 7;p0 8;p0 6;c0 1 3;c0 2 1;c2 1 1;c1 3 1;");
        x.letIn(1);
        x.hour(10);
        Check.same("all are blocked", x.told(6), 15);
        Check.same("gates as if not", x.gates(3, 0, 0), 0);
        Check.same("by the other way", x.gates(3, 0, 4), 2);
        Check.same("cut as if not", x.cut(3, 0, 1), 8);
    }

    // ---- cut

    private static void cutBothAnswers() {
        GossipArches x = Check.made(TEN);
        Check.same("what -1", x.cut(4, 0, -1), Check.OUTSIDE);
        Check.same("how many", x.cut(4, 0, 0), 2);
        Check.same("the set", x.cut(4, 0, 1), 9);
        Check.same("what 2", x.cut(4, 0, 2), Check.OUTSIDE);
        Check.same("at -1", x.cut(-1, 0, 0), Check.UNKNOWN);
        Check.same("at 7", x.cut(7, 7, 1), 64);
        Check.same("at 8", x.cut(8, 0, 0), Check.UNKNOWN);
        Check.same("of -1", x.cut(4, -1, 0), Check.UNKNOWN);
        Check.same("of 7", x.cut(4, 7, 0), 2);
        Check.same("of 8", x.cut(4, 8, 0), Check.UNKNOWN);
        Check.same("unknown ahead of outside", x.cut(8, 0, 2), Check.UNKNOWN);
        Check.same("unknown ahead of outside, of 8", x.cut(4, 8, -1), Check.UNKNOWN);
        x.gate(3, true);
        Check.same("one besides", x.cut(4, 0, 0), 1);
        Check.same("the least of like ones", x.cut(4, 0, 1), 1);
        x.gate(0, true);
        Check.same("cut off already", x.cut(4, 0, 0), 0);
        Check.same("the empty set", x.cut(4, 0, 1), 0);
    }

    private static void cutNone() {
        GossipArches x = Check.made(PAIR);
        Check.same("the spring hears always", x.cut(0, 0, 0), Check.NONE);
        Check.same("the spring, the set", x.cut(0, 0, 1), Check.NONE);
        x.gate(0, true);
        Check.same("the spring, all shut", x.cut(0, 7, 0), Check.NONE);
        Check.same("the spring, outside", x.cut(0, 7, 2), Check.OUTSIDE);
        Check.same("one that no channel leads to", Check.made("s1;p0 9;p0 8;").cut(1, 0, 0), 0);
        // odd sayings are not let on by a tank
        GossipArches y = Check.made("s1;p1 9;p0 8;c0 1 1;");
        Check.same("a tank, odd", y.cut(1, 1, 0), 0);
        Check.same("a tank, even", y.cut(1, 0, 0), 1);
        GossipArches z = Check.made("s1;p3 9;p0 8;c0 1 1;");
        Check.same("a tap", z.cut(1, 0, 0), 0);
    }

    // ---- meet

    private static void meetSayingsThatThereAre() {
        GossipArches x = Check.made(PAIR);
        Check.same("-1 and 0", x.meet(-1, 0, 0), Check.UNKNOWN);
        Check.same("0 and -1", x.meet(0, -1, 0), Check.UNKNOWN);
        Check.same("0 and 7", x.meet(0, 7, 0), 0);
        Check.same("7 and 0", x.meet(7, 0, 0), 0);
        Check.same("0 and 8", x.meet(0, 8, 0), Check.UNKNOWN);
        Check.same("8 and 0", x.meet(8, 0, 0), Check.UNKNOWN);
        for (int t = 0; t < 8; t++) {
            Check.same("one twice: " + t, x.meet(t, t, 0), Check.UNKNOWN);
        }
        Check.same("unknown ahead of outside", x.meet(3, 3, 31), Check.UNKNOWN);
        Check.same("unknown ahead of outside, 8", x.meet(8, 3, -1), Check.UNKNOWN);
    }

    private static void meetAt0To30() {
        // place 4 by four nines at hour 36, by 6 hours at hour 6: thirty between
        GossipArches x = Check.made("s9;p0 9;p0 8;p0 7;p0 6;p0 5;c0 1 9;c1 2 9;c2 3 9;c3 4 9;c0 4 6;");
        Check.same("d -1", x.meet(0, 1, -1), Check.OUTSIDE);
        Check.same("d 0", x.meet(0, 1, 0), 0);
        Check.same("d 1", x.meet(0, 1, 1), Check.NONE);
        Check.same("d 29", x.meet(0, 1, 29), Check.NONE);
        Check.same("d 30", x.meet(0, 1, 30), 36);
        Check.same("d 31", x.meet(0, 1, 31), Check.OUTSIDE);
        // thirty-one between: a d for it is outside
        GossipArches y = Check.made("s9;p0 9;p0 8;p0 7;p0 6;p0 5;c0 1 9;c1 2 9;c2 3 9;c3 4 9;c0 4 5;");
        Check.same("too far for d 30", y.meet(0, 1, 30), Check.NONE);
        Check.same("d 31 is outside", y.meet(0, 1, 31), Check.OUTSIDE);
    }

    private static void meetByHour60() {
        // place 7 by all seven channels, or from 3 (hour 27) at once: thirty between
        String rest = "c0 1 9;c1 2 9;c2 3 9;c3 4 9;c4 5 9;c5 6 9;";
        Check.same("hour 59", Check.made(EIGHT + rest + "c6 7 5;c3 7 2;").meet(0, 1, 30), 59);
        Check.same("hour 60", Check.made(EIGHT + rest + "c6 7 6;c3 7 3;").meet(0, 1, 30), 60);
        Check.same("hour 61", Check.made(EIGHT + rest + "c6 7 7;c3 7 4;").meet(0, 1, 30), Check.NONE);
    }

    private static void meetWhateverM() {
        GossipArches x = Check.made("s1;p0 9;p0 8;p0 7;c0 1 1;c1 2 1;c0 2 4;");
        Check.same("a second goes in", x.meet(0, 1, 2), 4);
        x.letIn(1);
        x.hour(9);
        Check.same("all are blocked", x.told(6), 7);
        Check.same("as if not", x.meet(0, 1, 2), 4);
        x.gate(2, true);
        Check.same("gates as now", x.meet(0, 1, 2), Check.NONE);
    }

    private static void meetNone() {
        GossipArches x = Check.made(PAIR);
        Check.same("one way: behind one another", x.meet(0, 1, 1), Check.NONE);
        Check.same("without works", new GossipArches().meet(0, 1, 0), Check.NONE);
        Check.same("without works, outside", new GossipArches().meet(0, 1, 31), Check.OUTSIDE);
        Check.same("without works, one twice", new GossipArches().meet(1, 1, 0), Check.UNKNOWN);
        Check.same("M alone", Check.made("s1;").meet(0, 1, 0), Check.NONE);
        Check.same("one place", Check.made("s1;p3 0;").meet(0, 1, 0), 0);
    }

    // ---- longest, ways

    private static void longestNone() {
        GossipArches x = Check.made("s1;p0 9;p0 8;p0 7;c0 1 9;");
        Check.same("to -1", x.longest(-1), Check.UNKNOWN);
        Check.same("the spring", x.longest(0), 0);
        Check.same("one channel", x.longest(1), 9);
        Check.same("no channel", x.longest(2), Check.NONE);
        Check.same("to 3", x.longest(3), Check.UNKNOWN);
        x.gate(0, true);
        Check.same("shut", x.longest(1), Check.NONE);
        Check.same("the spring, all shut", x.longest(0), 0);
        Check.same("the longest there can be", Check.made(chain(9)).longest(7), 63);
        GossipArches behind = Check.made(chain(9));
        behind.gate(0, true);
        Check.same("no way to 1", behind.longest(1), Check.NONE);
        Check.same("nor behind it", behind.longest(7), Check.NONE);
        Check.same("nor are there ways", behind.ways(7), 0);
        GossipArches y = Check.made("s1;p0 9;p0 8;p0 7;c0 1 1;c1 2 1;c0 2 1;");
        Check.same("two of one each", y.longest(2), 2);
        y.letIn(1);
        y.hour(5);
        Check.same("blocked ones are open", y.longest(2), 2);
        y.gate(1, true);
        Check.same("the other", y.longest(2), 1);
    }

    private static void waysNone() {
        GossipArches x = Check.made("s1;p0 9;p0 8;p0 7;c0 1 1;");
        Check.same("to -1", x.ways(-1), Check.UNKNOWN);
        Check.same("the spring", x.ways(0), 1);
        Check.same("one", x.ways(1), 1);
        Check.same("none", x.ways(2), 0);
        Check.same("to 3", x.ways(3), Check.UNKNOWN);
        x.gate(0, true);
        Check.same("shut", x.ways(1), 0);
        // doubled three times: 0 to 2, 2 to 4, 4 to 6 by two ways each
        String doubled = "c0 1 1;c1 2 1;c0 2 1;c2 3 1;c3 4 1;c2 4 1;c4 5 1;c5 6 1;c4 6 1;c6 7 1;";
        GossipArches y = Check.made(EIGHT + doubled);
        Check.same("eight ways", y.ways(7), 8);
        y.gate(0, true);
        Check.same("four ways", y.ways(7), 4);
        y.gate(9, true);
        Check.same("no way", y.ways(7), 0);
    }

    // ---- firstBlocked

    /** Whatever is fed by the spring is blocked by the 99th hour (M is 99 at most): only fewer hours would show. */
    private static void blockedFirstIn99Hours() {
        Check.same("M 99: the 99th hour", Check.made(PAIR).firstBlocked(), 0);
        GossipArches x = Check.made(PAIR);
        x.letIn(1);
        Check.same("what waits at the spring is let in with it", x.firstBlocked(), 0);
        Check.same("M 1: the first hour", Check.made("s1;p0 9;p0 8;c0 1 1;").firstBlocked(), 0);
        // from 9001 hours on they go on all the same
        GossipArches y = Check.made(PAIR);
        for (int i = 0; i < 150; i++) {
            y.hour(60);
        }
        y.hour(1);
        Check.same("full: no more hours", y.hour(1), Check.FULL);
        Check.same("full: tried all the same", y.firstBlocked(), 0);
        Check.same("hours stay", y.told(4), 9001);
    }

    private static void blockedFirstIsNotBlockedNow() {
        GossipArches x = Check.made("s2;p0 9;p0 8;p0 7;c0 1 1;c0 2 1;");
        x.gate(1, true);
        x.letIn(3);
        x.hour(1);
        x.gate(1, false);
        Check.same("0 is blocked now", x.told(6), 1);
        Check.same("the other is next", x.firstBlocked(), 1);
        x.clear(0);
        Check.same("cleared, it is first again", x.firstBlocked(), 0);
        x.undo();
        x.letIn(3);
        x.hour(1);
        Check.same("both are blocked now", x.told(6), 3);
        Check.same("none is next", x.firstBlocked(), Check.NONE);
    }

    private static void blockedFirstOfLikeOnesTheLeast() {
        // channel 1 leaves the spring, channel 0 the place behind it: one more in 0 makes them like by hours
        GossipArches x = Check.made("s2;p0 9;p0 8;p0 7;c1 2 1;c0 1 1;");
        Check.same("an hour ahead: the spring's", x.firstBlocked(), 1);
        x.letIn(1);
        x.hour(2);
        x.clear(1);
        Check.same("one in 0", x.channel(0, 3), 1);
        Check.same("in the same hour: the least", x.firstBlocked(), 0);
        GossipArches y = Check.made("s9;p0 9;p0 8;p0 7;c0 2 1;c0 1 1;");
        Check.same("both of the spring", y.firstBlocked(), 0);
        y.gate(0, true);
        Check.same("one is shut", y.firstBlocked(), 1);
    }

    private static void blockedFirstNone() {
        Check.same("without works", new GossipArches().firstBlocked(), Check.NONE);
        Check.same("M alone", Check.made("s1;").firstBlocked(), Check.NONE);
        Check.same("no channels", Check.made("s1;p0 1;").firstBlocked(), Check.NONE);
        Check.same("from a tap", Check.made("s1;p3 9;p0 8;c0 1 1;").firstBlocked(), Check.NONE);
        Check.same("from a tank", Check.made("s1;p1 9;p0 8;c0 1 1;").firstBlocked(), 0);
        GossipArches x = Check.made("s1;p0 9;p0 8;c0 1 1;");
        x.gate(0, true);
        Check.same("shut", x.firstBlocked(), Check.NONE);
        // what is on its way goes on, though the spring's channel is shut behind it
        GossipArches y = Check.made("s1;p0 9;p0 8;p0 7;c0 1 9;c1 2 1;");
        y.letIn(2);
        y.hour(1);
        Check.same("on its way", y.firstBlocked(), 1);
        y.gate(1, true);
        Check.same("to a shut one", y.firstBlocked(), Check.NONE);
    }

    // ---- share, frost

    private static void sharesAreCut() {
        GossipArches x = Check.made("s9;p0 9;p0 8;p0 7;c0 1 1;c1 2 1;");
        x.letIn(1);
        x.hour(1);
        Check.same("all of it", x.share(0), 1000);
        Check.same("none of it", x.share(2), 0);
        x.hour(1);
        Check.same("half", x.share(1), 500);
        x.hour(1);
        Check.same("a third is cut", x.share(2), 333);
        x.letIn(1);
        x.hour(3);
        Check.same("heard again counts once", x.share(0), 333);
        x.letIn(2);
        x.hour(1);
        Check.same("two of four", x.share(0), 500);
        // 1 of 8 and 7 of 8
        GossipArches y = Check.made("s99;p0 9;p0 8;c0 1 1;");
        y.letIn(127);
        y.gate(0, true);
        y.hour(1);
        y.gate(0, false);
        y.letIn(1);
        y.hour(2);
        Check.same("seven of eight", y.share(0), 875);
        Check.same("one of eight", y.share(1), 125);
        // 8 of 15 and 7 of 15
        y.letIn(126);
        y.hour(2);
        y.letIn(128);
        y.gate(0, true);
        y.hour(1);
        Check.same("533 and a third", y.share(0), 533);
        Check.same("466 and two thirds", y.share(1), 466);
        // all that can be heard: 8 sayings at 8 places
        GossipArches z = Check.made("s99" + TEN.substring(2));
        z.letIn(255);
        z.hour(9);
        for (int p = 0; p < 8; p++) {
            Check.same("an eighth", z.share(p), 125);
        }
    }

    private static void sharesOfNothing() {
        GossipArches x = Check.made(PAIR);
        Check.same("of -1", x.share(-1), Check.UNKNOWN);
        Check.same("nothing was heard", x.share(0), 0);
        Check.same("nothing was heard at 1", x.share(1), 0);
        Check.same("of 2", x.share(2), Check.UNKNOWN);
        x.letIn(1);
        Check.same("let in, not heard", x.share(0), 0);
        x.hour(1);
        Check.same("heard", x.share(0), 1000);
        x.empty();
        Check.same("emptied", x.share(0), 0);
    }

    private static void frostOf0To60Hours() {
        GossipArches x = new GossipArches();
        Check.same("n -1", x.frost(-1, 50), Check.OUTSIDE);
        Check.same("n 0", x.frost(0, 50), BILLION);
        Check.same("n 1", x.frost(1, 50), 500000000);
        Check.same("n 60", x.frost(60, 1), 547156620);
        Check.same("n 61", x.frost(61, 1), Check.OUTSIDE);
        Check.same("q -1", x.frost(1, -1), Check.OUTSIDE);
        Check.same("q 0", x.frost(1, 0), BILLION);
        Check.same("q 0, n 60", x.frost(60, 0), BILLION);
        Check.same("q 1", x.frost(1, 1), 990000000);
        Check.same("q 99", x.frost(1, 99), 10000000);
        Check.same("q 100", x.frost(1, 100), 0);
        Check.same("q 100, n 0", x.frost(0, 100), BILLION);
        Check.same("q 100, n 60", x.frost(60, 100), 0);
        Check.same("q 101", x.frost(1, 101), Check.OUTSIDE);
        Check.same("q 101, n 0", x.frost(0, 101), Check.OUTSIDE);
        Check.same("n 61, q 0", x.frost(61, 0), Check.OUTSIDE);
    }

    private static void frostIsCutEachTime() {
        GossipArches x = new GossipArches();
        Check.same("four of 99: ten", x.frost(4, 99), 10);
        Check.same("five of 99: cut", x.frost(5, 99), 0);
        // 953674, 476837, 238418 (.5 is cut) .. 7 (14 / 2), 3, 1, 0
        Check.same("29 halves", x.frost(29, 50), 1);
        Check.same("30 halves", x.frost(30, 50), 0);
        for (int q = 0; q <= 100; q++) {
            long odds = BILLION;
            for (int n = 0; n <= 60; n++) {
                if (n % 20 == q % 20) {
                    Check.same("frost " + n + " " + q, new GossipArches().frost(n, q), (int) odds);
                }
                odds = odds * (100 - q) / 100;
            }
        }
    }
}
