/** Promises 1 to 8: the text, its faults, what is told of the works. */
public final class TextTest {
    public static void main(String[] args) {
        newObject();
        feeding();
        emptyTexts();
        goodTexts();
        fullTexts();
        faultsOfOrder();
        faultsOfNumbers();
        faultsOfCounts();
        faultsOfChannels();
        aFaultChangesNothing();
        newWorksBeginAnew();
        tellings();
        firsts();
        Check.end();
    }

    private static void newObject() {
        GossipArches x = new GossipArches();
        for (int what = 0; what <= 10; what++) {
            Check.same("new: told(" + what + ")", x.told(what), 0);
        }
        Check.same("new: fault", x.fault(), Check.NONE);
        Check.same("new: place", x.place(0, 0), Check.UNKNOWN);
        Check.same("new: channel", x.channel(0, 0), Check.UNKNOWN);
        Check.same("new: first", x.first(0, 0), Check.UNKNOWN);
        Check.same("new: hears", x.hears(1, 0), Check.UNKNOWN);
        Check.same("new: longest", x.longest(0), Check.UNKNOWN);
        Check.same("new: gates", x.gates(0, 0, 0), Check.UNKNOWN);
        Check.same("new: listen", x.listen(0), Check.UNKNOWN);
        Check.same("new: goBack", x.goBack(0), Check.NOT);
        Check.same("new: seed", x.seed(3), 0);
        Check.same("new: tear", x.tear(), 0);
    }

    private static void feeding() {
        GossipArches x = new GossipArches();
        Check.same("feed -1", x.feed(-1), Check.OUTSIDE);
        Check.same("feed 256", x.feed(256), Check.OUTSIDE);
        Check.same("feed least", x.feed(Integer.MIN_VALUE), Check.OUTSIDE);
        Check.same("feed 0", x.feed(0), 1);
        Check.same("feed 255", x.feed(255), 2);
        for (int i = 3; i <= 240; i++) {
            Check.same("feed on", x.feed(32), i);
        }
        Check.same("feed 241st", x.feed(32), Check.FULL);
        Check.same("feed 241st, outside", x.feed(300), Check.OUTSIDE);
        Check.same("letters", x.told(3), 240);
        Check.same("works of 240 letters", x.works(), -11);
        Check.same("fault at", x.fault(), 0);
        Check.same("letters then", x.told(3), 0);
        Check.same("feed anew", x.feed('s'), 1);
    }

    private static void emptyTexts() {
        GossipArches x = Check.made(Check.QUARTER);
        Check.same("empty works", x.works(), 0);
        Check.same("no M", x.told(0), 0);
        Check.same("no places", x.told(1), 0);
        Check.same("no channels", x.told(2), 0);
        Check.same("no fault", x.fault(), Check.NONE);
        // blanks may stand anywhere: they do not make an empty text another one
        text("   ", 0, Check.NONE);
        text("s7;", 0, Check.NONE);
        Check.same("M alone", Check.made("s7;").told(0), 7);
        Check.same("no spring to let in at", Check.made("s7;").letIn(1), Check.NOT);
    }

    private static void goodTexts() {
        text(Check.QUARTER, 7, Check.NONE);
        text("s1;p0 0;", 1, Check.NONE);
        text("s99;p3 99;", 1, Check.NONE);
        text("s001;p002 009;", 1, Check.NONE);
        text("  s  1  ;  p  0  1  ;  ", 1, Check.NONE);
        text("s1;p0 2;p0 1;c0 1 9;", 2, Check.NONE);
        text("s1;p0 1;p0 2;c1 0 1;p0 0;c1 2 3;c0 2 1;", 3, Check.NONE);
        GossipArches x = Check.made(" s 042 ; p 2 017 ;p1 5;c 0 1 009;");
        Check.same("M", x.told(0), 42);
        Check.same("kind", x.place(0, 0), 2);
        Check.same("level", x.place(0, 1), 17);
        Check.same("hours of channel", x.channel(0, 2), 9);
    }

    private static void fullTexts() {
        text("s1;p0 1;" + " ".repeat(232), 1, Check.NONE);
        text(" ".repeat(232) + "s1;p0 1;", 1, Check.NONE);
        text("s1" + " ".repeat(238), -11, 240);
        text("s1;p0 " + "0".repeat(234), -12, 6);
        // letters of an earlier, longer text do not stand behind this one
        GossipArches x = Check.made("s1;p0 12;");
        Check.feed(x, "s2");
        Check.same("no ';' is left over", x.works(), -11);
        Check.same("the end has the fault", x.fault(), 2);
        Check.feed(x, "s2;p0 1");
        Check.same("no figure is left over", x.works(), -11);
        Check.same("the end has it, too", x.fault(), 7);
    }

    private static void faultsOfOrder() {
        text("p0 1;", -11, 0);
        text(" c0 1 1;", -11, 1);
        text("x", -11, 0);
        text("S1;", -11, 0);
        text("s", -11, 1);
        text("s  ", -11, 3);
        text("s1", -11, 2);
        text("s1 ", -11, 3);
        text("s;", -11, 1);
        text("ss", -11, 1);
        text("s1s", -11, 2);
        text("s1 2;", -11, 3);
        text("s1 1000;", -11, 3);
        text("s1;;", -11, 3);
        text("s1;1000", -11, 3);
        text("s1;x", -11, 3);
        text("s1;\t", -11, 3);
        text("s1;p0;", -11, 5);
        text("s1;p0 1", -11, 7);
        text("s1;p0 1p", -11, 7);
        text("s1;p0 1 1;", -11, 8);
        text("s1;p0,1;", -11, 5);
        text("s-1;", -11, 1);
        text("s1;p0 2;p0 1;c0 1;", -11, 17);
        text("s1;p0 2;p0 1;c0;", -11, 15);
        text("s1;p0 2;p0 1;c0 1 1", -11, 19);
        text("s1;p0 2;p0 1;c0 1 1 1;", -11, 20);
        GossipArches x = new GossipArches();
        x.feed('s');
        x.feed(255);
        Check.same("letter 255", x.works(), -11);
        Check.same("letter 255 at", x.fault(), 1);
    }

    private static void faultsOfNumbers() {
        text("s0;", -12, 1);
        text("s 100;", -12, 2);
        text("s0001;", -12, 1);
        text("s1000x", -12, 1);
        text("s99999999999999999999;", -12, 1);
        text("s1;p4 1;", -12, 4);
        text("s1;p0000 1;", -12, 4);
        text("s1;p012;", -12, 4);
        text("s1;p0 100;", -12, 6);
        text("s1;p0 1;c0 1 1;", -12, 11);
        text("s1;p0 1;c1 0 1;", -12, 9);
        text("s1;c0 0 1;", -12, 4);
        text("s1;p0 2;p0 1;c0000 1 1;", -12, 14);
        text("s1;p0 2;p0 1;c0 0001 1;", -12, 16);
        text("s1;p0 2;p0 1;c0 1 0;", -12, 18);
        text("s1;p0 2;p0 1;c0 1 10;", -12, 18);
        text("s1;p0 2;c0 1 1;p0 1;", -12, 11);
    }

    private static void faultsOfCounts() {
        text("s1;s", -13, 3);
        text("s1;p0 1; s2;", -13, 9);
        String eight = "s1;p0 9;p0 8;p0 7;p0 6;p0 5;p0 4;p0 3;p0 2;";
        text(eight, 8, Check.NONE);
        text(eight + "p", -13, eight.length());
        String ten = eight + "c0 1 1;c0 2 1;c0 3 1;c0 4 1;c0 5 1;c0 6 1;c0 7 1;c1 2 1;c1 3 1;c1 4 1;";
        text(ten, 8, Check.NONE);
        Check.same("ten channels", Check.made(ten).told(2), 10);
        text(ten + " c", -13, ten.length() + 1);
        text(ten + "p", -13, ten.length());
    }

    private static void faultsOfChannels() {
        text("s1;p0 1;c0 0 1;", -14, 11);
        text("s1;p0 1;p0 1;c0 1 1;", -14, 16);
        text("s1;p0 1;p0 2;c0 1 1;", -14, 16);
        text("s1;p0 2;p0 1;c0 1 1;c0 1 2;", -14, 23);
        text("s1;p0 2;p0 1;c0 1 1;c0  01 0;", -14, 24);
        text("s1;p0 2;p0 1;c0 1 1;c1 0 2;", -14, 23);
        text("s1;p0 1;c0 0x", -14, 11);
        text("s1;p0 3;p0 2;p0 1;c0 1 1;c1 2 1;c0 2 1;", 3, Check.NONE);
    }

    private static void aFaultChangesNothing() {
        GossipArches x = Check.made(Check.QUARTER);
        x.letIn(5);
        x.hour(3);
        x.drip(1, 0, 2);
        x.write(0, 5);
        Check.feed(x, "s9;p0 1;q");
        Check.same("a fault", x.works(), -11);
        Check.same("its letter", x.fault(), 8);
        Check.same("M stays", x.told(0), 5);
        Check.same("places stay", x.told(1), 7);
        Check.same("hours stay", x.told(4), 3);
        Check.same("drips stay", x.told(8), 1);
        Check.same("book stays", x.told(9), 1);
        Check.same("undoing stays", x.told(10), 2);
        Check.same("heard stays", x.place(1, 2), 5);
        Check.same("level stays", x.place(0, 1), 90);
        Check.same("text is gone", x.told(3), 0);
        Check.feed(x, "s9;p0 5;p0 4;c0 1 1;c");
        Check.same("another fault", x.works(), -11);
        Check.feed(x, "s3;p0 2;");
        Check.same("nothing of it is left", x.works(), 1);
        Check.same("nor of its channels", x.told(2), 0);
        Check.same("nor of its M", x.told(0), 3);
    }

    private static void newWorksBeginAnew() {
        GossipArches x = Check.made(Check.QUARTER);
        x.letIn(255);
        x.gate(1, true);
        x.crack(0, 6);
        x.hour(4);
        x.keep(0);
        x.letIn(1);
        x.seed(77);
        x.drip(1, 0, 2);
        x.write(0, 5);
        Check.feed(x, "q");
        x.works();
        Check.feed(x, Check.QUARTER);
        Check.same("works anew", x.works(), 7);
        Check.same("fault is gone", x.fault(), Check.NONE);
        for (int what = 3; what <= 10; what++) {
            Check.same("anew: told(" + what + ")", x.told(what), 0);
        }
        Check.same("anew: heard", x.place(0, 2) + x.place(6, 2), 0);
        Check.same("anew: first", x.first(0, 0), Check.NONE);
        Check.same("anew: silt", x.channel(0, 3), 0);
        Check.same("anew: gate", x.channel(1, 4), 0);
        Check.same("anew: crack", x.channel(0, 5), Check.NONE);
        Check.same("anew: undo", x.undo(), Check.NOT);
        Check.same("anew: image", x.goBack(0), Check.NOT);
        Check.same("anew: seed stays", x.seed(0), 77);
    }

    private static void tellings() {
        GossipArches x = Check.made(Check.QUARTER);
        Check.same("told -1", x.told(-1), Check.OUTSIDE);
        Check.same("told 11", x.told(11), Check.OUTSIDE);
        Check.same("M", x.told(0), 5);
        Check.same("places", x.told(1), 7);
        Check.same("channels", x.told(2), 7);
        x.feed(' ');
        Check.same("letters", x.told(3), 1);
        x.gate(2, true);
        x.gate(6, true);
        Check.same("shut", x.told(5), 68);
        x.letIn(255);
        Check.same("yet to come", x.told(7), 8);
        x.hour(1);
        Check.same("hours", x.told(4), 1);
        Check.same("blocked", x.told(6), 1);
        x.hour(2);
        Check.same("blocked by then", x.told(6), 3);
        Check.same("yet to come by then", x.told(7), 8);
        x.hour(3);
        Check.same("both channels of the tank", x.told(7), 8);
        Check.same("silt of four", x.channel(3, 3), 4);
        Check.same("four do not block", x.told(6), 3);
        Check.same("undone can be", x.told(10), 6);
        Check.same("place kind", x.place(4, 0), 3);
        Check.same("place level", x.place(6, 1), 30);
        Check.same("place heard", x.place(2, 2), 255);
        Check.same("place -1", x.place(-1, 0), Check.UNKNOWN);
        Check.same("place 7", x.place(7, 9), Check.UNKNOWN);
        Check.same("place what", x.place(6, 3), Check.OUTSIDE);
        Check.same("place what -1", x.place(6, -1), Check.OUTSIDE);
        Check.same("channel A", x.channel(5, 0), 4);
        Check.same("channel B", x.channel(5, 1), 5);
        Check.same("channel H", x.channel(6, 2), 6);
        Check.same("channel shut", x.channel(6, 4), 1);
        Check.same("channel open", x.channel(5, 4), 0);
        Check.same("channel crack", x.channel(5, 5), Check.NONE);
        x.crack(5, 0);
        Check.same("channel cracked", x.channel(5, 5), 0);
        Check.same("channel -1", x.channel(-1, 0), Check.UNKNOWN);
        Check.same("channel 7", x.channel(7, 6), Check.UNKNOWN);
        Check.same("channel what", x.channel(6, 6), Check.OUTSIDE);
        Check.same("channel what -1", x.channel(6, -1), Check.OUTSIDE);
    }

    private static void firsts() {
        GossipArches x = Check.made(Check.QUARTER);
        x.hour(10);
        x.letIn(1);
        x.hour(4);
        x.letIn(3);
        x.hour(4);
        Check.same("first of 0", x.first(1, 0), 12);
        Check.same("first of 1", x.first(1, 1), 16);
        Check.same("first of 2", x.first(1, 2), Check.NONE);
        Check.same("first at 7", x.first(7, 0), Check.UNKNOWN);
        Check.same("first at -1", x.first(-1, 0), Check.UNKNOWN);
        Check.same("first of 8", x.first(0, 8), Check.UNKNOWN);
        Check.same("first of -1", x.first(0, -1), Check.UNKNOWN);
    }

    private static void text(String text, int answer, int fault) {
        GossipArches x = new GossipArches();
        Check.feed(x, text);
        Check.same("works of '" + text + "'", x.works(), answer);
        Check.same("fault of '" + text + "'", x.fault(), fault);
    }
}
