/**
 * The bounds of section 2 and of promises 9 to 16, each on both sides. Every method stands for a sentence of the document.
 */
public final class FlowEdgesTest {
    private static final String PAIR = "s99;p0 9;p0 8;c0 1 1;";

    public static void main(String[] args) {
        setsLetInAre1To255();
        letInWithWhatIsThere();
        noPlacesNothingIsLetIn();
        whateverTheWays();
        theEmptySetDoesNotGoOn();
        kindsLetGoOn();
        channelsTake1To9Hours();
        shutAndOpen();
        blockedAtMOrMore();
        aSetGoesInAsAWholeOrNotAtAll();
        siltCountsWhatWentIn();
        cracksHearWhatGoesIn();
        cracksDoNotGoOn();
        firstIsTheFirst();
        emptiedLeavesHours();
        hoursAre1To60();
        fullAbove9000();
        driftFullAbove9000();
        gatesOfChannels();
        clearingOfChannels();
        cracksOfChannels();
        emptyingNothing();
        driftsAre1To60();
        atMost20AreKept();
        theOldestAreLost();
        refusedOnesAreNotKept();
        whatCanBeUndone();
        theSeedStays();
        undoneToTheLastThing();
        used512Times();
        Check.end();
    }

    // ---- letIn

    private static void setsLetInAre1To255() {
        GossipArches x = Check.made(PAIR);
        Check.same("letIn -1", x.letIn(-1), Check.OUTSIDE);
        Check.same("letIn 0", x.letIn(0), Check.OUTSIDE);
        Check.same("refused: nothing comes", x.told(7), 0);
        Check.same("letIn 1", x.letIn(1), 1);
        x.hour(1);
        Check.same("letIn 255", x.letIn(255), 255);
        Check.same("letIn 256", x.letIn(256), Check.OUTSIDE);
        Check.same("letIn 257", x.letIn(257), Check.OUTSIDE);
        Check.same("all eight", x.told(7), 9);
        Check.same("the empty set cannot be let in", x.told(10), 3);
    }

    private static void letInWithWhatIsThere() {
        GossipArches x = Check.made(PAIR);
        Check.same("one", x.letIn(128), 128);
        Check.same("it again", x.letIn(128), 128);
        Check.same("another", x.letIn(1), 129);
        Check.same("all", x.letIn(126), 255);
        Check.same("eight come", x.told(7), 8);
        x.hour(1);
        Check.same("each went in once", x.channel(0, 3), 8);
        Check.same("the next hour has none of it", x.letIn(2), 2);
    }

    private static void noPlacesNothingIsLetIn() {
        GossipArches x = Check.made("s9;");
        Check.same("no places", x.letIn(1), Check.NOT);
        Check.same("outside ahead of not", x.letIn(256), Check.OUTSIDE);
        Check.same("outside ahead of not, none", x.letIn(0), Check.OUTSIDE);
        Check.same("nothing to undo", x.told(10), 0);
        Check.same("one place", Check.made("s9;p3 0;").letIn(255), 255);
    }

    // ---- section 2

    private static void whateverTheWays() {
        // two ways of two hours to place 3
        GossipArches x = Check.made("s99;p0 9;p0 8;p0 7;p0 6;p0 5;c0 1 1;c0 2 1;c1 3 1;c2 3 1;c3 4 1;");
        x.letIn(5);
        x.hour(3);
        Check.same("heard once", x.place(3, 2), 5);
        Check.same("it goes on once", x.channel(4, 3), 2);
        // of three hours and two: it comes twice
        GossipArches y = Check.made("s99;p0 9;p0 8;p0 7;p0 6;p0 5;c0 1 1;c0 2 1;c1 3 1;c2 3 2;c3 4 1;");
        y.letIn(5);
        y.hour(4);
        Check.same("it goes on twice", y.channel(4, 3), 4);
        Check.same("the first counts", y.first(3, 2), 2);
        // parts that come together go on together
        GossipArches z = Check.made("s99;p0 9;p1 8;p0 7;p0 6;c0 1 1;c1 2 1;c0 2 2;c2 3 1;");
        z.letIn(3);
        z.hour(3);
        Check.same("an odd one by the other way", z.place(2, 2), 3);
        Check.same("together", z.channel(3, 3), 2);
    }

    private static void theEmptySetDoesNotGoOn() {
        GossipArches x = Check.made("s99;p1 9;p0 8;p0 7;c0 1 1;");
        x.crack(0, 2);
        x.letIn(170);
        x.hour(1);
        Check.same("heard at the tank", x.place(0, 2), 170);
        Check.same("nothing went in", x.channel(0, 3), 0);
        Check.same("nothing is on its way", x.told(7), 0);
        Check.same("nothing drips", x.place(2, 2), 0);
        x.letIn(171);
        x.hour(1);
        Check.same("one went in", x.channel(0, 3), 1);
        Check.same("one is on its way", x.told(7), 1);
        Check.same("one drips", x.place(2, 2), 1);
        // hours without anything leave silt as it is
        GossipArches y = Check.made("s1;p0 9;p0 8;c0 1 1;");
        y.hour(60);
        Check.same("no silt of nothing", y.channel(0, 3), 0);
        Check.same("not blocked by nothing", y.told(6), 0);
    }

    private static void kindsLetGoOn() {
        int[] on = {255, 85, 255, 0};
        for (int kind = 0; kind <= 3; kind++) {
            GossipArches x = Check.made("s99;p" + kind + " 9;p0 8;c0 1 1;");
            x.letIn(255);
            x.hour(2);
            Check.same("kind " + kind + " hears", x.place(0, 2), 255);
            Check.same("kind " + kind + " lets on", x.place(1, 2), on[kind]);
            for (int t = 0; t < 8; t++) {
                GossipArches y = Check.made("s99;p" + kind + " 9;p0 8;c0 1 1;");
                y.letIn(1 << t);
                y.hour(2);
                Check.same("kind " + kind + " and saying " + t, y.place(1, 2), on[kind] & 1 << t);
            }
        }
    }

    private static void channelsTake1To9Hours() {
        for (int h = 1; h <= 9; h++) {
            GossipArches x = Check.made("s9;p0 9;p0 8;c0 1 " + h + ";");
            x.hour(5);
            x.letIn(1);
            x.hour(h);
            Check.same("not ahead of " + h, x.place(1, 2), 0);
            Check.same("one is on its way", x.told(7), 1);
            x.hour(1);
            Check.same("at " + h, x.first(1, 0), 5 + h);
            Check.same("none is on its way", x.told(7), 0);
        }
        // what is let in each hour comes each hour: nothing runs into what is nine hours ahead
        GossipArches y = Check.made("s99;p0 9;p0 8;c0 1 9;");
        for (int i = 0; i < 24; i++) {
            y.letIn(1 << i % 8);
            y.hour(1);
            Check.same("on its way", y.told(7), Math.min(i + 1, 9));
        }
        Check.same("saying 7", y.first(1, 7), 16);
    }

    private static void shutAndOpen() {
        GossipArches x = Check.made(PAIR);
        x.gate(0, true);
        x.letIn(1);
        x.hour(1);
        Check.same("shut: no silt", x.channel(0, 3), 0);
        x.gate(0, false);
        x.letIn(2);
        x.hour(1);
        Check.same("open: silt", x.channel(0, 3), 1);
        x.gate(0, true);
        x.hour(1);
        Check.same("shut behind it: it comes", x.place(1, 2), 2);
    }

    private static void blockedAtMOrMore() {
        // M 1: the first set blocks
        GossipArches one = Check.made("s1;p0 9;p0 8;c0 1 1;");
        one.letIn(1);
        Check.same("M 1, silt 0", one.told(6), 0);
        one.hour(1);
        Check.same("M 1, silt 1", one.told(6), 1);
        one.letIn(2);
        one.hour(2);
        Check.same("M 1, no more", one.place(1, 2), 1);
        // M 99: 98 do not block, 99 do
        GossipArches most = Check.made("s99;p0 9;p0 8;c0 1 1;");
        for (int i = 0; i < 12; i++) {
            most.letIn(255);
            most.hour(1);
        }
        most.letIn(3);
        most.hour(1);
        Check.same("silt 98", most.channel(0, 3), 98);
        Check.same("98 of 99: not blocked", most.told(6), 0);
        most.letIn(1);
        most.hour(1);
        Check.same("silt 99", most.channel(0, 3), 99);
        Check.same("99 of 99: blocked", most.told(6), 1);
        most.letIn(1);
        most.hour(1);
        Check.same("silt stays", most.channel(0, 3), 99);
        // the greatest silt: 98 and a whole set
        GossipArches above = Check.made("s99;p0 9;p0 8;c0 1 1;");
        for (int i = 0; i < 13; i++) {
            above.letIn(i == 12 ? 3 : 255);
            above.hour(1);
        }
        above.letIn(255);
        above.hour(1);
        Check.same("silt 106", above.channel(0, 3), 106);
        Check.same("106 of 99: blocked", above.told(6), 1);
    }

    private static void aSetGoesInAsAWholeOrNotAtAll() {
        GossipArches x = Check.made("s2;p0 9;p0 8;c0 1 1;");
        x.letIn(1);
        x.hour(1);
        x.letIn(254);
        x.hour(2);
        Check.same("room for one: all seven go in", x.channel(0, 3), 8);
        Check.same("all seven come", x.place(1, 2), 255);
        GossipArches y = Check.made("s2;p0 9;p0 8;c0 1 1;");
        y.letIn(3);
        y.hour(1);
        y.letIn(254);
        y.hour(2);
        Check.same("no room: none goes in", y.channel(0, 3), 2);
        Check.same("none comes", y.place(1, 2), 3);
        Check.same("all are heard ahead of it", y.place(0, 2), 255);
    }

    private static void siltCountsWhatWentIn() {
        GossipArches x = Check.made("s99;p1 9;p0 8;p0 7;c0 1 1;c0 2 1;c1 2 1;");
        x.letIn(255);
        x.hour(1);
        Check.same("four of a tank", x.channel(0, 3), 4);
        Check.same("four in each", x.channel(1, 3), 4);
        Check.same("none further on yet", x.channel(2, 3), 0);
        x.hour(1);
        Check.same("four further on", x.channel(2, 3), 4);
        x.letIn(1);
        x.hour(1);
        Check.same("a saying again counts again", x.channel(0, 3), 5);
    }

    private static void cracksHearWhatGoesIn() {
        GossipArches x = Check.made("s2;p0 9;p0 8;p0 7;c0 1 9;");
        x.crack(0, 2);
        x.hour(4);
        x.letIn(129);
        x.hour(1);
        Check.same("heard as it goes in", x.first(2, 7), 4);
        Check.same("not yet at the end", x.place(1, 2), 0);
        x.letIn(2);
        x.hour(1);
        Check.same("blocked: nothing drips", x.place(2, 2), 129);
        x.clear(0);
        x.gate(0, true);
        x.letIn(2);
        x.hour(1);
        Check.same("shut: nothing drips", x.place(2, 2), 129);
        x.gate(0, false);
        x.crack(0, -1);
        x.letIn(2);
        x.hour(1);
        Check.same("mended: nothing drips", x.place(2, 2), 129);
        x.crack(0, 2);
        x.hour(1);
        Check.same("what is in it already does not drip", x.place(2, 2), 129);
        x.letIn(4);
        x.hour(1);
        Check.same("cracked again", x.place(2, 2), 133);
        // to the end of the channel itself
        GossipArches y = Check.made("s9;p0 9;p0 8;c0 1 9;");
        y.crack(0, 1);
        y.letIn(1);
        y.hour(10);
        Check.same("ahead of its coming", y.first(1, 0), 0);
    }

    private static void cracksDoNotGoOn() {
        GossipArches x = Check.made("s9;p0 9;p0 8;p0 7;c0 2 1;c1 2 1;");
        x.crack(0, 1);
        x.crack(1, 0);
        x.letIn(1);
        x.hour(1);
        Check.same("heard at 1", x.place(1, 2), 1);
        Check.same("one is on its way, to 2", x.told(7), 1);
        x.hour(9);
        Check.same("nothing went on from 1", x.channel(1, 3), 0);
        // heard by a crack, then it comes: it goes on then
        GossipArches y = Check.made("s9;p0 9;p0 8;p0 7;c0 1 3;c1 2 1;");
        y.crack(0, 1);
        y.letIn(1);
        y.hour(3);
        Check.same("heard, not come", y.channel(1, 3), 0);
        y.hour(1);
        Check.same("come", y.channel(1, 3), 1);
        Check.same("first heard by the crack", y.first(1, 0), 0);
    }

    private static void firstIsTheFirst() {
        GossipArches x = Check.made(PAIR);
        Check.same("never", x.first(0, 0), Check.NONE);
        x.letIn(1);
        Check.same("let in, not heard yet", x.first(0, 0), Check.NONE);
        x.hour(1);
        Check.same("hour 0", x.first(0, 0), 0);
        x.letIn(1);
        x.hour(1);
        Check.same("not hour 1", x.first(0, 0), 0);
        x.empty();
        Check.same("emptied", x.first(0, 0), Check.NONE);
        x.letIn(1);
        x.hour(1);
        Check.same("anew at hour 2", x.first(0, 0), 2);
    }

    private static void emptiedLeavesHours() {
        GossipArches x = Check.made("s2;p0 9;p0 8;p0 7;c0 1 9;c1 2 1;");
        x.gate(1, true);
        x.crack(0, 2);
        x.seed(8);
        x.drip(0, 0, 0);
        x.write(0, 1);
        x.letIn(3);
        x.hour(1);
        x.letIn(12);
        Check.same("two in the channel, two at the spring", x.empty(), 4);
        Check.same("nothing is on its way", x.told(7), 0);
        Check.same("nothing is blocked", x.told(6), 0);
        Check.same("no silt", x.channel(0, 3), 0);
        Check.same("nothing heard at the spring", x.place(0, 2), 0);
        Check.same("nothing heard by the crack", x.place(2, 2), 0);
        Check.same("no first", x.first(2, 0), Check.NONE);
        Check.same("hours stay", x.told(4), 1);
        Check.same("gates stay", x.told(5), 2);
        Check.same("cracks stay", x.channel(0, 5), 2);
        Check.same("drips stay", x.told(8), 1);
        Check.same("the book stays", x.told(9), 1);
        x.hour(20);
        Check.same("nothing comes", x.place(0, 2) + x.place(1, 2), 0);
        Check.same("the seed stays", x.seed(0), 8);
        x.undo();
        x.undo();
        Check.same("all of it again", x.told(7), 4);
        Check.same("silt again", x.channel(0, 3), 2);
        Check.same("first again", x.first(2, 0), 0);
    }

    // ---- hours

    private static void hoursAre1To60() {
        GossipArches x = Check.made(PAIR);
        Check.same("hour -1", x.hour(-1), Check.OUTSIDE);
        Check.same("hour 0", x.hour(0), Check.OUTSIDE);
        Check.same("refused: hours", x.told(4), 0);
        Check.same("hour 1", x.hour(1), 1);
        Check.same("hour 60", x.hour(60), 61);
        Check.same("hour 61", x.hour(61), Check.OUTSIDE);
        Check.same("refused: hours then", x.told(4), 61);
        Check.same("no places", new GossipArches().hour(1), Check.NOT);
        Check.same("no places, outside", new GossipArches().hour(61), Check.OUTSIDE);
        Check.same("one place", Check.made("s1;p0 0;").hour(1), 1);
        // sixty at once are sixty times one
        GossipArches at = Check.made(Check.QUARTER);
        GossipArches by = Check.made(Check.QUARTER);
        at.letIn(255);
        by.letIn(255);
        at.hour(60);
        for (int i = 0; i < 60; i++) {
            by.hour(1);
        }
        for (int p = 0; p < 7; p++) {
            Check.same("heard at " + p, at.place(p, 2), by.place(p, 2));
            Check.same("first at " + p, at.first(p, 0), by.first(p, 0));
        }
        Check.same("undone at once", at.undo(), 1);
        Check.same("undone by one", by.undo(), 19);
    }

    private static GossipArches aged(int hours) {
        GossipArches x = Check.made(PAIR);
        for (int left = hours; left > 0; left -= 60) {
            x.hour(Math.min(left, 60));
        }
        Check.same("hours", x.told(4), hours);
        return x;
    }

    private static void fullAbove9000() {
        Check.same("8999 and one", aged(8999).hour(1), 9000);
        Check.same("9000 and one", aged(9000).hour(1), 9001);
        Check.same("9000 and sixty", aged(9000).hour(60), 9060);
        GossipArches x = aged(9001);
        Check.same("9001 and one", x.hour(1), Check.FULL);
        Check.same("9001 and sixty", x.hour(60), Check.FULL);
        Check.same("outside ahead of full, 0", x.hour(0), Check.OUTSIDE);
        Check.same("outside ahead of full, 61", x.hour(61), Check.OUTSIDE);
        Check.same("hours stay", x.told(4), 9001);
        Check.same("all else can be done", x.letIn(1) + x.gate(0, true) + x.clear(0) + x.crack(0, 1), 0);
        Check.same("tried from hour 0", x.soonest(1, 0), 0);
        x.empty();
        Check.same("emptied, hours stay", x.hour(1), Check.FULL);
        GossipArches y = aged(9000);
        y.letIn(1);
        y.hour(60);
        Check.same("heard at 9000", y.first(0, 0), 9000);
        Check.same("heard at 9001", y.first(1, 0), 9001);
        Check.same("full at 9060", y.hour(1), Check.FULL);
        y.undo();
        Check.same("undone, not full", y.hour(1), 9001);
        Check.same("full at 9001", y.hour(1), Check.FULL);
        Check.feed(y, PAIR);
        y.works();
        Check.same("works anew, not full", y.hour(1), 1);
    }

    private static void driftFullAbove9000() {
        Check.same("9000 and one", aged(9000).drift(1), 9001);
        Check.same("9000 and sixty", aged(9000).drift(60), 9060);
        GossipArches x = aged(9001);
        Check.same("9001 and one", x.drift(1), Check.FULL);
        Check.same("9001 and sixty", x.drift(60), Check.FULL);
        Check.same("outside ahead of full, 0", x.drift(0), Check.OUTSIDE);
        Check.same("outside ahead of full, 61", x.drift(61), Check.OUTSIDE);
        Check.same("nothing was drawn", x.seed(0), 0);
        Check.same("hours stay", x.told(4), 9001);
    }

    // ---- gate, clear, crack, empty

    private static void gatesOfChannels() {
        GossipArches x = Check.made("s9;p0 9;p0 8;p0 7;c0 1 1;c0 2 1;");
        Check.same("gate -1", x.gate(-1, true), Check.UNKNOWN);
        Check.same("gate 2", x.gate(2, true), Check.UNKNOWN);
        Check.same("gate 32", x.gate(32, true), Check.UNKNOWN);
        Check.same("refused: none shut", x.told(5), 0);
        Check.same("gate 0", x.gate(0, true), 0);
        Check.same("gate 1", x.gate(1, true), 0);
        Check.same("both shut", x.told(5), 3);
        Check.same("shut already", x.gate(1, true), 1);
        Check.same("opened", x.gate(1, false), 1);
        Check.same("open already", x.gate(1, false), 0);
        Check.same("the other is shut", x.told(5), 1);
        Check.same("no channels", Check.made("s9;p0 9;").gate(0, true), Check.UNKNOWN);
    }

    private static void clearingOfChannels() {
        GossipArches x = Check.made("s9;p0 9;p0 8;p0 7;c0 1 1;c0 2 1;");
        x.letIn(7);
        x.hour(1);
        Check.same("clear -1", x.clear(-1), Check.UNKNOWN);
        Check.same("clear 2", x.clear(2), Check.UNKNOWN);
        Check.same("clear 1", x.clear(1), 3);
        Check.same("clear 1 again", x.clear(1), 0);
        Check.same("the other stays", x.channel(0, 3), 3);
        Check.same("clear 0", x.clear(0), 3);
        Check.same("what is in them comes", x.told(7), 6);
        Check.same("no channels", Check.made("s9;p0 9;").clear(0), Check.UNKNOWN);
    }

    private static void cracksOfChannels() {
        GossipArches x = Check.made("s9;p0 9;p0 8;p0 7;c0 1 1;c0 2 1;");
        Check.same("in -1", x.crack(-1, 0), Check.UNKNOWN);
        Check.same("in 2", x.crack(2, 0), Check.UNKNOWN);
        Check.same("to 3", x.crack(1, 3), Check.UNKNOWN);
        Check.same("to -2", x.crack(1, -2), Check.UNKNOWN);
        Check.same("refused: no crack", x.channel(1, 5), Check.NONE);
        Check.same("mended, though there is none", x.crack(1, -1), Check.NONE);
        Check.same("to 0", x.crack(1, 0), Check.NONE);
        Check.same("to 2", x.crack(1, 2), 0);
        Check.same("to 2 again", x.crack(1, 2), 2);
        Check.same("the other has none", x.channel(0, 5), Check.NONE);
        Check.same("mended", x.crack(1, -1), 2);
        Check.same("mended again", x.crack(1, -1), Check.NONE);
        Check.same("six to undo", x.told(10), 6);
        Check.same("no channels", Check.made("s9;p0 9;").crack(0, 0), Check.UNKNOWN);
        Check.same("no channels, mended", Check.made("s9;p0 9;").crack(0, -1), Check.UNKNOWN);
    }

    private static void emptyingNothing() {
        GossipArches none = new GossipArches();
        Check.same("nothing there", none.empty(), 0);
        Check.same("it can be undone", none.undo(), 0);
        GossipArches x = Check.made(PAIR);
        Check.same("nothing on its way", x.empty(), 0);
        x.letIn(1);
        Check.same("one at the spring", x.empty(), 1);
        Check.same("none then", x.empty(), 0);
        x.letIn(255);
        x.hour(1);
        Check.same("eight on their way", x.empty(), 8);
        x.hour(1);
        Check.same("they do not come", x.place(1, 2), 0);
    }

    // ---- drift

    private static void driftsAre1To60() {
        GossipArches x = Check.made(PAIR);
        Check.same("drift -1", x.drift(-1), Check.OUTSIDE);
        Check.same("drift 0", x.drift(0), Check.OUTSIDE);
        Check.same("drift 61", x.drift(61), Check.OUTSIDE);
        Check.same("refused: nothing drawn", x.seed(0), 0);
        Check.same("drift 1", x.drift(1), 1);
        Check.same("drift 60", x.drift(60), 61);
        Check.same("two to undo", x.told(10), 2);
        Check.same("no places", new GossipArches().drift(1), Check.NOT);
        Check.same("no places, outside", new GossipArches().drift(0), Check.OUTSIDE);
        GossipArches none = Check.made("s9;");
        none.drift(60);
        Check.same("no places: nothing drawn", none.seed(0), 0);
        Check.same("one place", Check.made("s1;p0 0;").drift(60), 60);
    }

    // ---- undo

    private static void atMost20AreKept() {
        GossipArches x = Check.made(PAIR);
        Check.same("none", x.undo(), Check.NOT);
        x.letIn(1);
        Check.same("one", x.told(10), 1);
        Check.same("undone", x.undo(), 0);
        Check.same("none then", x.undo(), Check.NOT);
        for (int i = 1; i <= 19; i++) {
            x.gate(0, i % 2 == 1);
        }
        Check.same("19", x.told(10), 19);
        x.gate(0, true);
        Check.same("20", x.told(10), 20);
        x.gate(0, true);
        Check.same("a 21st: 20", x.told(10), 20);
        Check.same("one undone: 19", x.undo(), 19);
        x.gate(0, true);
        Check.same("20 again", x.told(10), 20);
    }

    private static void theOldestAreLost() {
        for (int calls = 19; calls <= 62; calls++) {
            GossipArches x = Check.made(PAIR);
            for (int i = 0; i < calls; i++) {
                x.hour(1);
            }
            int more = Math.min(calls, 20);
            for (int i = more - 1; i >= 0; i--) {
                Check.same(calls + " calls, more", x.undo(), i);
                Check.same(calls + " calls, hours", x.told(4), calls - more + i);
            }
            Check.same(calls + " calls, no more", x.undo(), Check.NOT);
            Check.same(calls + " calls, the oldest", x.told(4), Math.max(calls - 20, 0));
        }
    }

    private static void refusedOnesAreNotKept() {
        GossipArches x = Check.made(PAIR);
        x.letIn(1);
        x.letIn(0);
        x.hour(0);
        x.hour(61);
        x.gate(1, true);
        x.clear(1);
        x.crack(1, 0);
        x.crack(0, 2);
        x.drift(61);
        Check.same("one alone", x.told(10), 1);
        Check.same("let in undone", x.undo(), 0);
        Check.same("nothing is there", x.told(7), 0);
    }

    private static void whatCanBeUndone() {
        GossipArches x = Check.made(PAIR);
        Deed[] done = {
            y -> y.letIn(1), y -> y.hour(1), y -> y.gate(0, false), y -> y.clear(0), y -> y.crack(0, -1), y -> y.empty(),
            y -> y.drift(1),
        };
        for (int i = 0; i < done.length; i++) {
            done[i].on(x);
            Check.same("deed " + i + " can be undone", x.told(10), i + 1);
        }
        Deed[] others = {
            y -> y.feed(32), y -> y.fault(), y -> y.told(0), y -> y.place(0, 0), y -> y.channel(0, 0), y -> y.first(0, 0),
            y -> y.hears(1, 0), y -> y.soonest(1, 0), y -> y.gates(0, 0, 0), y -> y.cut(0, 0, 0), y -> y.meet(0, 1, 0),
            y -> y.longest(0), y -> y.ways(0), y -> y.firstBlocked(), y -> y.share(0), y -> y.frost(1, 1),
            y -> y.drip(0, 0, 0), y -> y.cracked(0), y -> y.listen(0), y -> y.write(0, 0), y -> y.tear(), y -> y.judge(),
            y -> y.seed(5),
        };
        for (int i = 0; i < others.length; i++) {
            others[i].on(x);
            Check.same("other call " + i + " cannot", x.told(10), done.length);
        }
        x.drip(0, 0, 0);
        x.write(0, 0);
        x.undo();
        Check.same("drips are not undone", x.told(8), 1);
        Check.same("nor the book", x.told(9), 1);
        Check.same("nor letters", x.told(3), 1);
        x.keep(0);
        Check.same("keep: nothing can be", x.told(10), 0);
        x.letIn(1);
        x.goBack(0);
        Check.same("goBack: nothing can be", x.told(10), 0);
        x.letIn(1);
        x.feed('x');
        Check.same("a fault", x.works(), -11);
        Check.same("a fault: as it was", x.told(10), 1);
        x.works();
        Check.same("works: nothing can be", x.told(10), 0);
    }

    private static void theSeedStays() {
        GossipArches x = Check.made(PAIR);
        x.drift(1);
        int seed = x.seed(3);
        Check.same("drawn twice", seed, 1406932606);
        x.seed(seed);
        x.undo();
        Check.same("hours are undone", x.told(4), 0);
        Check.same("the seed is not", x.seed(7), seed);
        x.letIn(1);
        x.seed(9);
        x.undo();
        Check.same("a seed of ones own neither", x.seed(0), 9);
    }

    private static void undoneToTheLastThing() {
        GossipArches x = Check.made(Check.QUARTER);
        x.letIn(15);
        x.crack(1, 6);
        x.gate(6, true);
        x.hour(4);
        Deed[] done = {
            y -> y.letIn(128), y -> y.hour(60), y -> y.gate(6, false), y -> y.gate(1, true), y -> y.clear(0),
            y -> y.crack(1, -1), y -> y.crack(0, 0), y -> y.empty(), y -> y.drift(60),
        };
        int[] before = all(x);
        for (int i = 0; i < done.length; i++) {
            done[i].on(x);
            x.undo();
            int[] after = all(x);
            for (int k = 0; k < before.length; k++) {
                Check.same("deed " + i + " undone, " + k, after[k], before[k]);
            }
        }
    }

    /** A row over all of section 2, without what each first was: that is in the sum. */
    private static int[] all(GossipArches x) {
        int[] row = new int[4 + 7 + 7 + 1];
        for (int what = 0; what < 4; what++) {
            row[what] = x.told(4 + what);
        }
        for (int i = 0; i < 7; i++) {
            row[4 + i] = x.place(i, 2);
            row[11 + i] = x.channel(i, 3) * 100 + x.channel(i, 5);
            row[18] = row[18] * 31 + x.first(i, i);
        }
        return row;
    }

    // ---- 512 calls

    /** The last of 512 calls is answered as the first ones are. */
    private static void used512Times() {
        GossipArches x = new GossipArches();
        int calls = 0;
        for (int i = 0; i < PAIR.length(); i++, calls++) {
            x.feed(PAIR.charAt(i));
        }
        x.works();
        calls++;
        int hours = 0;
        while (calls + 2 + 40 <= 512) {
            x.letIn(1 << hours % 8);
            x.hour(1);
            hours++;
            calls += 2;
        }
        // an hour and what was let in ahead of it are undone by turns
        for (int undone = 1; undone <= 20; undone++) {
            Check.same("undone near the end", x.undo(), 20 - undone);
            Check.same("hours near the end", x.told(4), hours - (undone + 1) / 2);
            calls += 2;
        }
        Check.same("they were 512", calls, 512);
    }
}
