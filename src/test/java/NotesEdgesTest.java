/**
 * The bounds of drips, the book, draws and images (section 3, promises 27 to 35), each on both sides. Every method stands
 * for a sentence of the document.
 */
public final class NotesEdgesTest {
    private static final String EIGHT = "s1;p0 9;p0 8;p0 7;p0 6;p0 5;p0 4;p0 3;p0 2;";
    private static final String TEN = EIGHT + "c0 1 1;c0 2 1;c0 3 1;c0 4 1;c0 5 1;c0 6 1;c0 7 1;c1 2 1;c1 3 1;c1 4 1;";
    private static final String PAIR = "s99;p0 9;p0 8;c0 1 1;";
    private static final int MOST = 2147483647;

    public static void main(String[] args) {
        dripsOfPlacesAndSayings();
        dripHoursAre0To60Or99();
        dripsAreAtMost6();
        allSixDripsCount();
        crackedOfNoDrips();
        crackedNeverAndHour60();
        crackedInPlaceOfAllThereAre();
        crackedWhateverM();
        crackedAsGatesAre();
        listenNone();
        listenByNever();
        listenBySaying0();
        setsWrittenAre0To255();
        entriesAreAtMost15();
        allFifteenEntriesAreJudged();
        judgedNow();
        torn();
        seedsAre0To2147483647();
        seedsAreLeftOver();
        drawsOf3();
        drawsOf8();
        imagesAre0And1();
        imagesThatWereNotKept();
        nothingCanBeUndoneThen();
        imagesKeepTheSeed();
        imagesKeepAllOfSection2();
        imagesKeepNothingElse();
        Check.end();
    }

    private static String chain(int h) {
        return EIGHT + "c0 1 9;c1 2 9;c2 3 9;c3 4 9;c4 5 9;c5 6 9;c6 7 " + h + ";";
    }

    // ---- drip

    private static void dripsOfPlacesAndSayings() {
        GossipArches x = Check.made(PAIR);
        Check.same("at -1", x.drip(-1, 0, 0), Check.UNKNOWN);
        Check.same("at 2", x.drip(2, 0, 0), Check.UNKNOWN);
        Check.same("of -1", x.drip(0, -1, 0), Check.UNKNOWN);
        Check.same("of 8", x.drip(0, 8, 0), Check.UNKNOWN);
        Check.same("unknown ahead of outside", x.drip(2, 0, 61), Check.UNKNOWN);
        Check.same("unknown ahead of outside, of 8", x.drip(0, 8, -1), Check.UNKNOWN);
        Check.same("refused: none", x.told(8), 0);
        Check.same("at 0, of 0", x.drip(0, 0, 0), 1);
        Check.same("at 1, of 7", x.drip(1, 7, 1), 2);
        Check.same("both fit", x.cracked(0), 1025);
        Check.same("without works", new GossipArches().drip(0, 0, 0), Check.UNKNOWN);
    }

    private static void dripHoursAre0To60Or99() {
        for (int hour = -2; hour <= 101; hour++) {
            GossipArches x = Check.made(PAIR);
            boolean taken = (hour >= 0 && hour <= 60) || hour == 99;
            Check.same("hour " + hour, x.drip(0, 0, hour), taken ? 1 : Check.OUTSIDE);
            Check.same("hour " + hour + ", drips", x.told(8), taken ? 1 : 0);
        }
    }

    private static void dripsAreAtMost6() {
        GossipArches x = Check.made(PAIR);
        Check.same("none", x.told(8), 0);
        for (int i = 1; i <= 6; i++) {
            Check.same("drip " + i, x.drip(1, i, 1), i);
            Check.same("drips", x.told(8), i);
        }
        Check.same("a seventh", x.drip(1, 7, 1), Check.FULL);
        Check.same("a seventh that is there already", x.drip(1, 1, 1), Check.FULL);
        Check.same("outside ahead of full", x.drip(1, 7, 61), Check.OUTSIDE);
        Check.same("unknown ahead of full", x.drip(2, 7, 1), Check.UNKNOWN);
        Check.same("six", x.told(8), 6);
        x.drip(1, 7, 99);
        Check.same("the seventh does not count", x.cracked(0), 1025);
        Check.same("the book has room", x.write(0, 0), 1);
        x.tear();
        Check.same("room again", x.drip(1, 7, 1), 1);
    }

    private static void allSixDripsCount() {
        for (int other = 0; other < 6; other++) {
            GossipArches x = Check.made(PAIR);
            for (int i = 0; i < 6; i++) {
                x.drip(1, i, i == other ? 2 : 1);
            }
            Check.same("drip " + other + " is otherwise", x.cracked(0), 0);
        }
    }

    // ---- cracked

    private static void crackedOfNoDrips() {
        Check.same("ten channels", Check.made(TEN).cracked(7), 2047);
        Check.same("no channels", Check.made(EIGHT).cracked(7), 1024);
        Check.same("one channel", Check.made(PAIR).cracked(1), 1025);
        GossipArches x = Check.made(TEN);
        Check.same("to -1", x.cracked(-1), Check.UNKNOWN);
        Check.same("to 0", x.cracked(0), 2047);
        Check.same("to 8", x.cracked(8), Check.UNKNOWN);
        Check.same("without works", new GossipArches().cracked(0), Check.UNKNOWN);
        // the tenth channel, bit 9, alone: what leaves place 1 does so at hour 1; 4 has it at hour 1 itself
        x.gate(3, true);
        x.gate(7, true);
        x.gate(8, true);
        x.drip(4, 0, 1);
        Check.same("bit 9", x.cracked(4), 512);
        x.tear();
        x.drip(4, 0, 2);
        // a crack in a shut channel, or none, leaves it at hour 2
        Check.same("bit 10", x.cracked(4), 1024 + 8 + 128 + 256);
    }

    private static void crackedNeverAndHour60() {
        GossipArches by60 = Check.made(chain(6));
        by60.drip(7, 0, 60);
        Check.same("hour 60", by60.cracked(0), 1024 + 127);
        Check.same("hour 60, a crack is ahead of it", by60.cracked(7), 1024);
        by60.tear();
        by60.drip(7, 0, 99);
        Check.same("hour 60 is not never", by60.cracked(0), 0);
        GossipArches by61 = Check.made(chain(7));
        by61.drip(7, 0, 99);
        Check.same("hour 61 is never", by61.cracked(0), 1024 + 127);
        Check.same("hour 61, a crack is ahead of it", by61.cracked(7), 1024);
        by61.tear();
        by61.drip(7, 0, 60);
        Check.same("hour 61 is not hour 60", by61.cracked(7), 0);
        by61.tear();
        by61.drip(7, 0, 54);
        Check.same("by the last channel's crack", by61.cracked(7), 64);
        by61.tear();
        by61.drip(0, 0, 0);
        Check.same("hour 0", by61.cracked(7), 1024 + 127);
        by61.drip(7, 0, 0);
        Check.same("hour 0 by the first channel's crack", by61.cracked(7), 1);
    }

    private static void crackedInPlaceOfAllThereAre() {
        GossipArches x = Check.made("s9;p0 9;p0 8;p0 7;c0 1 3;c1 2 3;");
        x.crack(0, 2);
        x.drip(2, 0, 6);
        Check.same("the crack there is does not count", x.cracked(1), 1024 + 3);
        Check.same("to 2: none", x.cracked(2), 1024);
        x.drip(2, 1, 0);
        Check.same("both cannot be", x.cracked(2), 0);
        Check.same("the crack is still there", x.channel(0, 5), 2);
    }

    private static void crackedWhateverM() {
        GossipArches x = Check.made("s1;p0 9;p0 8;p0 7;c0 1 1;c1 2 1;");
        x.letIn(1);
        x.hour(5);
        Check.same("all are blocked", x.told(6), 3);
        x.drip(2, 1, 2);
        Check.same("as if not", x.cracked(0), 1024 + 3);
        Check.same("listen as if not", x.listen(2), Check.NONE);
        x.tear();
        Check.same("listen as if not, three cases", x.listen(2), 2);
    }

    private static void crackedAsGatesAre() {
        GossipArches x = Check.made("s9;p0 9;p0 8;p0 7;c0 1 3;c1 2 3;");
        x.drip(2, 0, 99);
        Check.same("open", x.cracked(2), 0);
        x.gate(1, true);
        Check.same("the last shut: none, or a crack in it", x.cracked(2), 1024 + 2);
        x.gate(0, true);
        Check.same("both shut: whatever", x.cracked(2), 1024 + 3);
    }

    // ---- listen

    private static void listenNone() {
        GossipArches x = Check.made("s9;p0 9;p0 8;p0 7;c0 1 3;");
        Check.same("to -1", x.listen(-1), Check.UNKNOWN);
        Check.same("to 0: the spring has it anyway", x.listen(0), Check.NONE);
        Check.same("to 1: two are parted", x.listen(1), 1);
        Check.same("to 2: two are parted", x.listen(2), 2);
        Check.same("to 3", x.listen(3), Check.UNKNOWN);
        x.drip(2, 0, 0);
        Check.same("one fits", x.cracked(2), 1);
        Check.same("one is not parted", x.listen(2), Check.NONE);
        x.drip(2, 0, 1);
        Check.same("nothing fits", x.cracked(2), 0);
        Check.same("nothing is parted", x.listen(2), Check.NONE);
        Check.same("no channels", Check.made(EIGHT).listen(3), Check.NONE);
        Check.same("without works", new GossipArches().listen(0), Check.UNKNOWN);
    }

    private static void listenByNever() {
        GossipArches x = Check.made("s9;p0 9;p0 8;p0 7;c0 1 3;");
        Check.same("hour 0, or never", x.listen(2), 2);
        x.gate(0, true);
        Check.same("never both", x.listen(2), Check.NONE);
        // hour 61 is never: seven cracks at seven hours, and never
        GossipArches y = Check.made(chain(7));
        Check.same("eight parts of one", y.listen(7), 7);
        y.gate(6, true);
        y.drip(7, 0, 99);
        Check.same("a crack in the shut one, or none", y.cracked(7), 1024 + 64);
        Check.same("never both, again", y.listen(7), Check.NONE);
    }

    private static void listenBySaying0() {
        // odd sayings do not leave the spring: what is known of 1 says nothing, 0 does
        GossipArches x = Check.made("s9;p1 9;p0 8;p0 7;c0 1 3;");
        x.drip(2, 1, 99);
        Check.same("1 says nothing", x.cracked(2), 1025);
        Check.same("0 parts them", x.listen(2), 2);
        // a tap lets nothing by
        GossipArches y = Check.made("s9;p3 9;p0 8;p0 7;c0 1 3;");
        Check.same("nothing goes in", y.listen(2), Check.NONE);
        // three cases, two alike: the part of two is less than all three
        GossipArches z = Check.made("s9;p0 9;p0 8;p0 7;p0 6;c0 1 3;c0 2 3;");
        Check.same("three cases", z.cracked(3), 1024 + 3);
        Check.same("two of them alike", z.listen(3), 3);
    }

    // ---- write, judge, tear

    private static void setsWrittenAre0To255() {
        GossipArches x = Check.made(PAIR);
        Check.same("at -1", x.write(-1, 0), Check.UNKNOWN);
        Check.same("at 2", x.write(2, 0), Check.UNKNOWN);
        Check.same("set -1", x.write(0, -1), Check.OUTSIDE);
        Check.same("set 256", x.write(0, 256), Check.OUTSIDE);
        Check.same("unknown ahead of outside", x.write(2, 256), Check.UNKNOWN);
        Check.same("refused: none", x.told(9), 0);
        Check.same("set 0", x.write(0, 0), 1);
        Check.same("set 255", x.write(1, 255), 2);
        Check.same("the second is otherwise", x.judge(), 1);
        x.letIn(255);
        x.hour(1);
        Check.same("the first is otherwise", x.judge(), 0);
        Check.same("without works", new GossipArches().write(0, 0), Check.UNKNOWN);
    }

    private static void entriesAreAtMost15() {
        GossipArches x = Check.made(PAIR);
        for (int i = 1; i <= 15; i++) {
            Check.same("entry " + i, x.write(1, 0), i);
            Check.same("entries", x.told(9), i);
        }
        Check.same("a sixteenth", x.write(1, 1), Check.FULL);
        Check.same("outside ahead of full", x.write(1, 256), Check.OUTSIDE);
        Check.same("unknown ahead of full", x.write(2, 0), Check.UNKNOWN);
        Check.same("fifteen", x.told(9), 15);
        Check.same("the sixteenth is not judged", x.judge(), Check.NONE);
        Check.same("drips have room", x.drip(0, 0, 0), 1);
        Check.same("torn", x.tear(), 16);
        Check.same("room again", x.write(1, 0), 1);
    }

    private static void allFifteenEntriesAreJudged() {
        for (int other = 0; other < 15; other++) {
            GossipArches x = Check.made(PAIR);
            for (int i = 0; i < 15; i++) {
                x.write(i % 2, i < other ? 0 : 1);
            }
            Check.same("the first that is otherwise", x.judge(), other);
        }
    }

    private static void judgedNow() {
        GossipArches x = Check.made(PAIR);
        Check.same("an empty book", x.judge(), Check.NONE);
        Check.same("an empty book without works", new GossipArches().judge(), Check.NONE);
        x.write(1, 128);
        Check.same("not yet heard", x.judge(), 0);
        x.letIn(128);
        x.hour(1);
        Check.same("on its way", x.judge(), 0);
        x.hour(1);
        Check.same("heard", x.judge(), Check.NONE);
        x.letIn(1);
        x.hour(2);
        Check.same("more is otherwise, too", x.judge(), 0);
        x.undo();
        Check.same("undone", x.judge(), Check.NONE);
        x.empty();
        Check.same("emptied", x.judge(), 0);
    }

    private static void torn() {
        GossipArches x = Check.made(PAIR);
        Check.same("nothing", x.tear(), 0);
        x.drip(0, 0, 0);
        Check.same("a drip", x.tear(), 1);
        x.write(0, 0);
        Check.same("an entry", x.tear(), 1);
        for (int i = 0; i < 7; i++) {
            x.drip(0, 0, 5);
        }
        for (int i = 0; i < 16; i++) {
            x.write(0, 5);
        }
        Check.same("all there can be", x.tear(), 21);
        Check.same("no drips", x.told(8), 0);
        Check.same("no entries", x.told(9), 0);
        Check.same("all fits", x.cracked(0), 1025);
        Check.same("nothing is wrong", x.judge(), Check.NONE);
        Check.same("again", x.tear(), 0);
        Check.same("without works", new GossipArches().tear(), 0);
    }

    // ---- seed, draws

    private static void seedsAre0To2147483647() {
        GossipArches x = new GossipArches();
        Check.same("0 at first", x.seed(1), 0);
        Check.same("seed -1", x.seed(-1), Check.OUTSIDE);
        Check.same("refused: as it was", x.seed(0), 1);
        Check.same("seed 0", x.seed(MOST), 0);
        Check.same("the least", x.seed(Integer.MIN_VALUE), Check.OUTSIDE);
        Check.same("seed 2147483647", x.seed(MOST - 1), MOST);
        Check.same("seed 2147483646", x.seed(0), MOST - 1);
    }

    /** From this seed one hour by draws leads to that seed, and lets in that set. */
    private static void drawn(int from, int to, int set) {
        GossipArches x = Check.made("s9;p0 9;");
        x.seed(from);
        Check.same("an hour by " + from, x.drift(1), 1);
        Check.same("heard by " + from, x.place(0, 2), set);
        Check.same("the seed behind " + from, x.seed(0), to);
    }

    private static void seedsAreLeftOver() {
        // the draw becomes 0; 2 to the 31 less 1; these on both sides of what the wrap-around leaves
        drawn(2088216195, 12345, 1);
        drawn(230538014, MOST, 0);
        drawn(0, 1406932606, 16);
        drawn(1, 1103527590, 0);
        drawn(MOST, 1043980748, 0);
    }

    private static void drawsOf3() {
        // the draw's seed is 65535 (0 / 65536), 65536, 131071, 131072, 196607, 196608 (3: 0 is left over)
        drawn(2032319262, 212263372, 1 << 6);
        drawn(1742513795, 65536, 0);
        drawn(1686616862, 131071, 0);
        drawn(1396811395, 131072, 0);
        drawn(1340914462, 196607, 0);
        drawn(1051108995, 1799827513, 1 << 7);
        // the greatest: 32767 (1 is left over), 32766 (0 is)
        drawn(286434947, 2147418112, 0);
        drawn(576240414, 1875698124, 1 << 4);
    }

    private static void drawsOf8() {
        int seen = 0;
        for (int v = 0; v < 400; v++) {
            long seed = (v * 1103515245L + 12345L) % 2147483648L;
            if (seed / 65536 % 3 == 0) {
                long next = (seed * 1103515245L + 12345L) % 2147483648L;
                int set = 1 << (int) (next / 65536 % 8);
                drawn(v, (int) next, set);
                seen |= set;
            } else {
                drawn(v, (int) seed, 0);
            }
        }
        Check.same("each of the eight was drawn", seen, 255);
        // ahead of each hour: sixty at once are sixty times one
        GossipArches at = Check.made(Check.QUARTER);
        GossipArches by = Check.made(Check.QUARTER);
        at.drift(60);
        for (int i = 0; i < 60; i++) {
            by.drift(1);
        }
        for (int p = 0; p < 7; p++) {
            for (int t = 0; t < 8; t++) {
                Check.same("first at " + p + " of " + t, at.first(p, t), by.first(p, t));
            }
        }
        Check.same("the same seed", at.seed(0), by.seed(0));
    }

    // ---- keep, goBack

    private static void imagesAre0And1() {
        GossipArches x = Check.made(PAIR);
        Check.same("keep -1", x.keep(-1), Check.UNKNOWN);
        Check.same("keep 0", x.keep(0), 1);
        x.hour(1);
        Check.same("keep 1", x.keep(1), 1);
        x.hour(1);
        Check.same("keep 2", x.keep(2), Check.UNKNOWN);
        Check.same("goBack -1", x.goBack(-1), Check.UNKNOWN);
        Check.same("goBack 2", x.goBack(2), Check.UNKNOWN);
        Check.same("refused: hours", x.told(4), 2);
        Check.same("goBack 1", x.goBack(1), 1);
        Check.same("hours of image 1", x.told(4), 1);
        Check.same("goBack 0", x.goBack(0), 1);
        Check.same("hours of image 0", x.told(4), 0);
        Check.same("goBack 1 again", x.goBack(1), 1);
        Check.same("image 1 is as it was", x.told(4), 1);
        x.hour(5);
        Check.same("keep 0 again", x.keep(0), 1);
        x.goBack(1);
        x.goBack(0);
        Check.same("the later one", x.told(4), 6);
    }

    private static void imagesThatWereNotKept() {
        GossipArches x = Check.made(PAIR);
        Check.same("neither, 0", x.goBack(0), Check.NOT);
        Check.same("neither, 1", x.goBack(1), Check.NOT);
        Check.same("unknown ahead of not", x.goBack(2), Check.UNKNOWN);
        x.keep(1);
        Check.same("the other", x.goBack(0), Check.NOT);
        Check.same("the one", x.goBack(1), 1);
        x.feed('x');
        x.works();
        Check.same("a fault leaves it", x.goBack(1), 1);
        Check.feed(x, PAIR);
        x.works();
        Check.same("works take it", x.goBack(1), Check.NOT);
        x.keep(0);
        x.works();
        Check.same("an empty text, too", x.goBack(0), Check.NOT);
        GossipArches none = new GossipArches();
        Check.same("a new one", none.goBack(0), Check.NOT);
        Check.same("kept without works", none.keep(0), 1);
        none.seed(4);
        Check.same("gone back without works", none.goBack(0), 1);
        Check.same("its seed", none.seed(0), 0);
    }

    private static void nothingCanBeUndoneThen() {
        GossipArches x = Check.made(PAIR);
        x.hour(1);
        x.hour(1);
        x.keep(2);
        x.goBack(0);
        Check.same("refused: two can be", x.told(10), 2);
        x.keep(0);
        Check.same("kept: none", x.told(10), 0);
        Check.same("kept: not", x.undo(), Check.NOT);
        Check.same("kept: hours stay", x.told(4), 2);
        for (int i = 0; i < 20; i++) {
            x.hour(1);
        }
        Check.same("twenty", x.told(10), 20);
        x.goBack(0);
        Check.same("gone back: none", x.told(10), 0);
        Check.same("gone back: not", x.undo(), Check.NOT);
        x.hour(1);
        Check.same("one", x.undo(), 0);
        Check.same("back to the image", x.told(4), 2);
    }

    private static void imagesKeepTheSeed() {
        GossipArches x = Check.made(PAIR);
        x.seed(MOST);
        x.keep(0);
        x.seed(0);
        x.keep(1);
        x.drift(7);
        x.goBack(0);
        Check.same("the one", x.seed(3), MOST);
        x.goBack(1);
        Check.same("the other", x.seed(3), 0);
        // the same draws from an image on
        x.goBack(1);
        x.drift(30);
        int heard = x.place(0, 2);
        int seed = x.seed(1);
        x.goBack(1);
        x.drift(30);
        Check.same("the same heard", x.place(0, 2), heard);
        Check.same("the same seed", x.seed(1), seed);
    }

    private static void imagesKeepAllOfSection2() {
        GossipArches x = Check.made(Check.QUARTER);
        GossipArches y = Check.made(Check.QUARTER);
        for (GossipArches each : new GossipArches[] {x, y}) {
            each.letIn(7);
            each.crack(1, 6);
            each.gate(6, true);
            each.hour(3);
            each.letIn(16);
            each.drift(2);
            each.keep(0);
        }
        x.gate(6, false);
        x.gate(0, true);
        x.crack(1, -1);
        x.crack(0, 0);
        x.letIn(255);
        x.hour(60);
        x.empty();
        x.letIn(64);
        x.drift(60);
        x.goBack(0);
        Watch.alike("going, and going back,", x, y);
    }

    private static void imagesKeepNothingElse() {
        GossipArches x = Check.made(PAIR);
        x.keep(0);
        x.drip(0, 0, 0);
        x.write(0, 1);
        Check.feed(x, "s1");
        x.goBack(0);
        Check.same("drips stay", x.told(8), 1);
        Check.same("the book stays", x.told(9), 1);
        Check.same("letters stay", x.told(3), 2);
        Check.same("the book is as it was", x.judge(), 0);
        Check.same("places stay", x.told(1), 2);
    }
}
