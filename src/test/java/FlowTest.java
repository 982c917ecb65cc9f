/** Promises 9 to 16: what is done, and undone. */
public final class FlowTest {
    public static void main(String[] args) {
        lettingIn();
        hoursPass();
        hoursAreBounded();
        kindsOfPlaces();
        waysMeetInOneSet();
        siltBlocks();
        gatesShutAndOpen();
        clearing();
        cracks();
        emptying();
        drifting();
        undoing();
        undoneAtMostTwenty();
        Check.end();
    }

    private static void lettingIn() {
        GossipArches x = Check.made(Check.QUARTER);
        Check.same("letIn 0", x.letIn(0), Check.OUTSIDE);
        Check.same("letIn 256", x.letIn(256), Check.OUTSIDE);
        Check.same("letIn -1", x.letIn(-1), Check.OUTSIDE);
        Check.same("letIn 1", x.letIn(1), 1);
        Check.same("letIn 6, too", x.letIn(6), 7);
        Check.same("letIn 2 again", x.letIn(2), 7);
        Check.same("not heard yet", x.place(0, 2), 0);
        x.hour(1);
        Check.same("heard", x.place(0, 2), 7);
        Check.same("next hour", x.letIn(128), 128);
        GossipArches none = new GossipArches();
        Check.same("outside ahead of not", none.letIn(0), Check.OUTSIDE);
        Check.same("not", none.letIn(255), Check.NOT);
        Check.same("refused: nothing to undo", none.told(10), 0);
    }

    private static void hoursPass() {
        GossipArches x = Check.made("s9;p0 9;p0 8;p0 7;c0 1 9;c1 2 1;");
        x.letIn(16);
        Check.same("nine hours", x.hour(9), 9);
        Check.same("not yet", x.place(1, 2), 0);
        Check.same("the tenth", x.hour(1), 10);
        Check.same("at hour 9", x.first(1, 4), 9);
        Check.same("not further", x.place(2, 2), 0);
        x.hour(1);
        Check.same("at hour 10", x.first(2, 4), 10);
        Check.same("nothing is on its way", x.told(7), 0);
    }

    private static void hoursAreBounded() {
        GossipArches none = new GossipArches();
        Check.same("outside ahead of not", none.hour(0), Check.OUTSIDE);
        Check.same("not", none.hour(60), Check.NOT);
        Check.same("drift outside ahead of not", none.drift(61), Check.OUTSIDE);
        Check.same("drift not", none.drift(60), Check.NOT);
        GossipArches x = Check.made("s9;p0 9;");
        Check.same("hour 0", x.hour(0), Check.OUTSIDE);
        Check.same("hour 61", x.hour(61), Check.OUTSIDE);
        Check.same("hour -1", x.hour(-1), Check.OUTSIDE);
        Check.same("drift 0", x.drift(0), Check.OUTSIDE);
        Check.same("drift 61", x.drift(61), Check.OUTSIDE);
        for (int i = 1; i <= 150; i++) {
            Check.same("sixty hours", x.hour(60), 60 * i);
        }
        Check.same("9000 is not above 9000", x.hour(1), 9001);
        Check.same("full", x.hour(1), Check.FULL);
        Check.same("drift full", x.drift(1), Check.FULL);
        Check.same("outside ahead of full", x.hour(0), Check.OUTSIDE);
        Check.same("refused: hours", x.told(4), 9001);
        x.undo();
        Check.same("again sixty", x.drift(60), 9060);
        Check.same("full then", x.drift(1), Check.FULL);
        x.letIn(1);
        Check.same("letting in is not full", x.told(7), 1);
    }

    private static void kindsOfPlaces() {
        GossipArches x = Check.made("s99;p0 9;p1 8;p2 8;p3 8;p0 1;p0 1;p0 1;c0 1 1;c0 2 1;c0 3 1;c1 4 1;c2 5 1;c3 6 1;");
        x.letIn(255);
        x.hour(3);
        Check.same("a tank hears all", x.place(1, 2), 255);
        Check.same("behind a tank", x.place(4, 2), 85);
        Check.same("behind a basin", x.place(5, 2), 255);
        Check.same("a tap hears all", x.place(3, 2), 255);
        Check.same("behind a tap", x.place(6, 2), 0);
        Check.same("silt behind a tank", x.channel(3, 3), 4);
        Check.same("silt behind a tap", x.channel(5, 3), 0);
        GossipArches tank = Check.made("s9;p1 9;p0 8;c0 1 1;");
        tank.letIn(170);
        tank.hour(2);
        Check.same("an empty set does not go on", tank.channel(0, 3), 0);
        Check.same("the spring is a tank", tank.place(0, 2) + tank.place(1, 2), 170);
    }

    private static void waysMeetInOneSet() {
        GossipArches tank = Check.made("s99;p0 9;p1 8;p0 7;c0 1 1;c1 2 1;c0 2 2;");
        tank.letIn(255);
        tank.hour(3);
        Check.same("a part does not put out the whole", tank.place(2, 2), 255);
        GossipArches x = Check.made("s99;p0 9;p0 8;p0 7;p0 6;c0 1 1;c0 2 2;c1 2 1;c2 3 1;");
        x.letIn(3);
        x.hour(2);
        Check.same("two ways, one set", x.told(7), 2);
        x.hour(1);
        Check.same("silt counts a set once", x.channel(3, 3), 2);
        Check.same("it comes on", x.told(7), 2);
    }

    private static void siltBlocks() {
        GossipArches x = Check.made("s3;p0 9;p0 8;c0 1 1;");
        x.letIn(3);
        x.hour(1);
        Check.same("two of three", x.told(6), 0);
        x.letIn(252);
        x.hour(2);
        Check.same("a set goes in as a whole", x.channel(0, 3), 8);
        Check.same("all came", x.place(1, 2), 255);
        Check.same("blocked", x.told(6), 1);
        x.empty();
        x.letIn(7);
        x.hour(1);
        Check.same("just three block", x.told(6), 1);
        x.letIn(8);
        x.hour(2);
        Check.same("nothing more goes in", x.channel(0, 3), 3);
        Check.same("nothing more comes", x.place(1, 2), 7);
        Check.same("the spring hears it", x.place(0, 2), 15);
    }

    private static void gatesShutAndOpen() {
        GossipArches x = Check.made(Check.QUARTER);
        Check.same("gate 7", x.gate(7, true), Check.UNKNOWN);
        Check.same("gate -1", x.gate(-1, false), Check.UNKNOWN);
        Check.same("shut", x.gate(0, true), 0);
        Check.same("shut again", x.gate(0, true), 1);
        Check.same("as told", x.told(5), 1);
        x.letIn(1);
        x.hour(3);
        Check.same("nothing goes in", x.channel(0, 3) + x.place(1, 2), 0);
        Check.same("opened", x.gate(0, false), 1);
        Check.same("opened again", x.gate(0, false), 0);
        x.hour(3);
        Check.same("what was held is gone", x.place(1, 2), 0);
        x.letIn(1);
        x.hour(1);
        x.gate(0, true);
        x.hour(2);
        Check.same("what is in the channel comes", x.place(1, 2), 1);
        Check.same("gates can be undone, five of them", x.told(10), 11);
    }

    private static void clearing() {
        GossipArches x = Check.made("s2;p0 9;p0 8;c0 1 1;");
        x.letIn(3);
        x.hour(1);
        Check.same("blocked", x.told(6), 1);
        Check.same("cleared", x.clear(0), 2);
        Check.same("not blocked", x.told(6), 0);
        Check.same("cleared again", x.clear(0), 0);
        Check.same("clear 1", x.clear(1), Check.UNKNOWN);
        Check.same("clear -1", x.clear(-1), Check.UNKNOWN);
        Check.same("what is on its way stays", x.told(7), 2);
    }

    private static void cracks() {
        GossipArches x = Check.made(Check.QUARTER);
        Check.same("crack in 7", x.crack(7, 0), Check.UNKNOWN);
        Check.same("crack to 7", x.crack(0, 7), Check.UNKNOWN);
        Check.same("crack to -2", x.crack(0, -2), Check.UNKNOWN);
        Check.same("crack in -1", x.crack(-1, Check.NONE), Check.UNKNOWN);
        Check.same("a crack", x.crack(1, 3), Check.NONE);
        Check.same("another", x.crack(1, 5), 3);
        x.letIn(3);
        x.hour(3);
        Check.same("heard as it goes in", x.first(5, 1), 2);
        Check.same("the other does not", x.place(3, 2), 0);
        Check.same("not elsewhere", x.place(2, 2), 0);
        Check.same("it does not come there", x.told(7), 4);
        Check.same("mended", x.crack(1, Check.NONE), 5);
        Check.same("as told", x.channel(1, 5), Check.NONE);
        Check.same("heard stays", x.place(5, 2), 3);
        GossipArches y = Check.made("s9;p0 9;p0 8;p0 7;p0 6;c0 1 1;c2 3 1;");
        y.crack(0, 2);
        y.letIn(1);
        y.hour(9);
        Check.same("heard by a crack", y.place(2, 2), 1);
        Check.same("it does not go on", y.place(3, 2) + y.channel(1, 3), 0);
        y.gate(0, true);
        y.letIn(4);
        y.hour(9);
        Check.same("nothing goes in, nothing drips", y.place(2, 2), 1);
        y.crack(0, 0);
        y.gate(0, false);
        y.letIn(8);
        y.hour(1);
        Check.same("a crack to the channel's own place", y.place(0, 2), 13);
    }

    private static void emptying() {
        GossipArches x = Check.made(Check.QUARTER);
        x.gate(6, true);
        x.crack(4, 0);
        x.letIn(7);
        x.hour(3);
        Check.same("six were yet to come", x.empty(), 6);
        Check.same("nothing is", x.told(7), 0);
        Check.same("nothing is heard", x.place(0, 2) + x.place(1, 2), 0);
        Check.same("no first", x.first(0, 0), Check.NONE);
        Check.same("no silt", x.channel(0, 3), 0);
        Check.same("hours stay", x.told(4), 3);
        Check.same("gates stay", x.told(5), 64);
        Check.same("cracks stay", x.channel(4, 5), 0);
        Check.same("again", x.empty(), 0);
        Check.same("without works", new GossipArches().empty(), 0);
    }

    private static void drifting() {
        // seed 0: 12345 / 65536 is 0, so a saying comes; then 1406932606 / 65536 = 21468, left over by 8 is 4
        GossipArches x = Check.made("s99;p0 9;p0 8;c0 1 1;");
        Check.same("an hour", x.drift(1), 1);
        Check.same("saying 4", x.place(0, 2), 16);
        Check.same("the seed", x.seed(1), 1406932606);
        // seed 1: 1103527590 / 65536 = 16838, left over by 3 is 2: nothing comes
        Check.same("another", x.drift(1), 2);
        Check.same("nothing new", x.place(0, 2), 16);
        Check.same("the seed then", x.seed(0), 1103527590);
        x.undo();
        x.undo();
        Check.same("undone", x.place(0, 2), 0);
        Check.same("the seed is not", x.seed(0), 0);
        x.letIn(1);
        Check.same("two hours", x.drift(2), 2);
        Check.same("let in with what is there", x.first(0, 0) + x.first(0, 4), 0);
    }

    private static void undoing() {
        GossipArches x = Check.made(Check.QUARTER);
        Check.same("none", x.undo(), Check.NOT);
        x.letIn(7);
        x.hour(1);
        x.gate(1, true);
        x.crack(2, 6);
        x.hour(2);
        x.clear(0);
        x.drift(3);
        x.empty();
        x.hour(0);
        x.gate(9, true);
        Check.same("refused ones do not count", x.told(10), 8);
        Check.same("no first by now", x.first(1, 0), Check.NONE);
        Check.same("empty undone", x.undo(), 7);
        Check.same("the first again", x.first(1, 0), 2);
        Check.same("heard again, with what drifted in", x.place(1, 2), 23);
        Check.same("drift undone", x.undo(), 6);
        Check.same("hours again", x.told(4), 3);
        Check.same("heard as ahead of it", x.place(1, 2), 7);
        Check.same("clear undone", x.undo(), 5);
        Check.same("silt again", x.channel(0, 3), 3);
        Check.same("hours undone", x.undo(), 4);
        Check.same("hours one", x.told(4), 1);
        Check.same("not heard", x.place(1, 2), 0);
        Check.same("no first", x.first(1, 0), Check.NONE);
        Check.same("not dripped", x.place(6, 2), 0);
        Check.same("crack undone", x.undo(), 3);
        Check.same("no crack", x.channel(2, 5), Check.NONE);
        Check.same("gate undone", x.undo(), 2);
        Check.same("open", x.told(5), 0);
        Check.same("hour undone", x.undo(), 1);
        Check.same("to come again", x.told(7), 3);
        Check.same("let in undone", x.undo(), 0);
        Check.same("nothing to come", x.told(7), 0);
        Check.same("no more", x.undo(), Check.NOT);
        Check.same("what is tried or noted cannot be undone", x.drip(0, 0, 0) + x.write(0, 0) + x.told(10), 2);
        x.gate(0, false);
        Check.same("a call without effect counts", x.told(10), 1);
    }

    private static void undoneAtMostTwenty() {
        GossipArches x = Check.made("s9;p0 9;");
        for (int i = 1; i <= 47; i++) {
            x.hour(1);
            Check.same("can be undone", x.told(10), Math.min(i, 20));
        }
        for (int i = 19; i >= 0; i--) {
            Check.same("more", x.undo(), i);
        }
        Check.same("no more", x.undo(), Check.NOT);
        Check.same("the oldest are lost", x.told(4), 27);
    }
}
