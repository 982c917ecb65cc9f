/** Promises 17 to 26: what is tried. */
public final class TriedTest {
    /** A straight run of nines to place 7, three short cuts. */
    private static final String LONG =
        "s99;p0 99;p0 98;p0 97;p0 96;p0 95;p0 94;p0 93;p2 92;"
        + "c0 1 9;c1 2 9;c2 3 9;c3 4 9;c4 5 9;c5 6 9;c6 7 9;c0 7 1;c0 6 2;c1 7 5;";

    public static void main(String[] args) {
        hearing();
        hearingWithSilt();
        hearingByTheSixtiethHour();
        hearingAnew();
        onePlace();
        fullWorks();
        nothingChanges();
        gateSearch();
        cutting();
        meeting();
        waysCounted();
        blockedFirst();
        shares();
        frosts();
        Check.end();
    }

    private static void hearing() {
        GossipArches x = Check.made(Check.QUARTER);
        Check.same("hears behind a tank", x.hears(255, 6), 85);
        Check.same("hears all", x.hears(254, 5), 254);
        Check.same("hears at the spring", x.hears(9, 0), 9);
        Check.same("hears of nothing", x.hears(0, 0), 0);
        Check.same("soonest at the spring", x.soonest(9, 0), 0);
        Check.same("soonest of nothing", x.soonest(0, 0), Check.NONE);
        Check.same("soonest", x.soonest(1, 6), 7);
        Check.same("soonest never", x.soonest(2, 6), Check.NONE);
        Check.same("hears at 7", x.hears(256, 7), Check.UNKNOWN);
        Check.same("hears at -1", x.hears(1, -1), Check.UNKNOWN);
        Check.same("hears 256", x.hears(256, 0), Check.OUTSIDE);
        Check.same("hears -1", x.hears(-1, 0), Check.OUTSIDE);
        Check.same("soonest at 7", x.soonest(-1, 7), Check.UNKNOWN);
        Check.same("soonest 256", x.soonest(256, 6), Check.OUTSIDE);
        Check.same("soonest -1", x.soonest(-1, 6), Check.OUTSIDE);
        x.crack(0, 6);
        Check.same("by a crack", x.hears(2, 6), 2);
        Check.same("by a crack at once", x.soonest(3, 6), 0);
        x.gate(0, true);
        Check.same("a shut gate", x.hears(3, 6) + x.hears(3, 1), 0);
    }

    private static void hearingWithSilt() {
        // the even sayings come through the tank first and fill the last channel
        GossipArches x = Check.made("s2;p0 9;p1 8;p0 7;p0 6;c0 1 1;c1 2 1;c0 2 5;c2 3 1;");
        Check.same("all come to 2", x.hears(15, 2), 15);
        Check.same("the later are blocked", x.hears(15, 3), 5);
        Check.same("one leaves room", x.hears(7, 3), 5);
        Check.same("room for one more", x.hears(3, 3), 3);
        x.letIn(15);
        x.hour(20);
        Check.same("blocked now", x.told(6), 15);
        Check.same("tried without silt", x.hears(15, 3), 5);
        Check.same("soonest without silt", x.soonest(15, 3), 3);
    }

    private static void hearingByTheSixtiethHour() {
        GossipArches x = Check.made(LONG);
        x.gate(7, true);
        x.gate(8, true);
        x.gate(9, true);
        Check.same("hour 54", x.soonest(1, 6), 54);
        Check.same("hour 63 is too late", x.soonest(1, 7), Check.NONE);
        Check.same("not heard", x.hears(1, 7), 0);
        Check.same("no gates make it so", x.gates(7, 0, 0), Check.NONE);
        Check.same("none need be shut", x.cut(7, 0, 1), 0);
        Check.same("the way is there", x.longest(7), 63);
        x.crack(6, 7);
        Check.same("by a crack", x.soonest(1, 7), 54);
        Check.same("by a crack, gates", x.gates(7, 0, 0), 0);
        GossipArches sixty = Check.made(
            "s9;p0 9;p0 8;p0 7;p0 6;p0 5;p0 4;p0 3;p0 2;c0 1 9;c1 2 9;c2 3 9;c3 4 9;c4 5 9;c5 6 9;c6 7 6;");
        Check.same("hour 60 is in time", sixty.soonest(1, 7), 60);
        Check.same("hour 60 is heard", sixty.hears(1, 7), 1);
        Check.same("hour 60 by gates", sixty.gates(7, 0, 0), 0);
        Check.same("hour 60 cut", sixty.cut(7, 0, 1), 1);
        sixty.drip(7, 0, 60);
        Check.same("hour 60 drips", sixty.cracked(0), 1151);
    }

    private static void hearingAnew() {
        GossipArches x = Check.made(Check.QUARTER);
        x.letIn(6);
        x.hour(4);
        x.letIn(8);
        Check.same("what was heard does not count", x.hears(1, 1), 1);
        Check.same("nor what is on its way", x.hears(0, 1) + x.hears(0, 3), 0);
        Check.same("nor the hours", x.soonest(1, 1), 2);
        Check.same("nor when it was heard", x.soonest(4, 3), 6);
    }

    private static void onePlace() {
        GossipArches x = Check.made("s1;p3 0;");
        Check.same("the spring alone: gates", x.gates(0, 5, 0), 0);
        Check.same("the spring alone: silent", x.gates(0, 5, 1), Check.NONE);
        Check.same("the spring alone: others", x.gates(0, 5, 2), Check.UNKNOWN);
        Check.same("the spring alone: cut", x.cut(0, 5, 0), Check.NONE);
        Check.same("the spring alone: meet", x.meet(2, 3, 0), 0);
        Check.same("the spring alone: meet later", x.meet(2, 3, 1), Check.NONE);
        Check.same("the spring alone: first blocked", x.firstBlocked(), Check.NONE);
        Check.same("the spring alone: hears", x.hears(200, 0), 200);
        x.drip(0, 3, 0);
        Check.same("the spring alone: cracked", x.cracked(0), 1024);
        Check.same("the spring alone: listen", x.listen(0), Check.NONE);
    }

    /** Every count at its most: no row may be left. */
    private static void fullWorks() {
        GossipArches x = Check.made(LONG);
        x.letIn(255);
        x.crack(9, 7);
        x.hour(60);
        x.hour(60);
        for (int i = 0; i < 6; i++) {
            x.drip(7, 7 - i, 1);
        }
        for (int i = 0; i < 15; i++) {
            x.write(7, 255);
        }
        Check.same("full works: hears", x.hears(255, 7), 255);
        Check.same("full works: share", x.share(7), 125);
        Check.same("full works: silt of the last", x.channel(9, 3), 8);
        Check.same("full works: gates", x.gates(7, 7, 127), Check.NONE);
        Check.same("full works: all silent but the spring", x.gates(0, 7, 254), 1 + 128 + 256);
        Check.same("full works: cracked", x.cracked(7), 2047 - 1 - 128 - 256);
        // saying 0 comes to 7 at hour 1, ahead of all that could drip into it
        Check.same("full works: listen", x.listen(7), Check.NONE);
        Check.same("full works: judge", x.judge(), Check.NONE);
        Check.same("full works: tear", x.tear(), 21);
    }

    private static void nothingChanges() {
        GossipArches x = Check.made(Check.QUARTER);
        x.letIn(6);
        x.crack(1, 4);
        x.hour(3);
        x.hears(255, 5);
        x.soonest(255, 5);
        x.gates(5, 0, 4);
        x.cut(5, 0, 0);
        x.meet(0, 1, 3);
        x.longest(5);
        x.ways(5);
        x.firstBlocked();
        x.share(0);
        x.cracked(3);
        x.listen(3);
        Check.same("hours", x.told(4), 3);
        Check.same("yet to come", x.told(7), 4);
        Check.same("undone can be", x.told(10), 3);
        Check.same("heard", x.place(0, 2) * 256 + x.place(1, 2), 6 * 256 + 6);
        Check.same("dripped", x.first(4, 1), 2);
        Check.same("silt", x.channel(0, 3), 2);
        Check.same("crack", x.channel(1, 5), 4);
        Check.same("shut", x.told(5), 0);
    }

    private static void gateSearch() {
        GossipArches x = Check.made(Check.QUARTER);
        Check.same("as it is", x.gates(5, 1, 16), 0);
        Check.same("of like ones the least", x.gates(5, 0, 16), 2);
        Check.same("the tank is passed by", x.gates(5, 0, 4), 2);
        Check.same("6 alone", x.gates(6, 0, 56), 12);
        Check.same("no others than itself", x.gates(5, 0, 32), Check.NONE);
        Check.same("the spring always hears", x.gates(5, 0, 1), Check.NONE);
        Check.same("all others silent", x.gates(0, 7, 126), 1);
        Check.same("odd ones stop at the tank", x.gates(4, 3, 0), Check.NONE);
        x.gate(1, true);
        Check.same("shut already", x.gates(5, 0, 4), 0);
        Check.same("shut gates are not opened", x.gates(6, 0, 0), Check.NONE);
        x.gate(1, false);
        x.crack(1, 5);
        Check.same("a crack tells them", x.gates(6, 0, 32), Check.NONE);
        x.crack(1, 6);
        Check.same("a crack lets hear", x.gates(6, 1, 32), 4);
        Check.same("gates at 7", x.gates(7, 0, 0), Check.UNKNOWN);
        Check.same("gates at -1", x.gates(-1, 0, 0), Check.UNKNOWN);
        Check.same("gates of 8", x.gates(0, 8, 0), Check.UNKNOWN);
        Check.same("gates of -1", x.gates(0, -1, 0), Check.UNKNOWN);
        Check.same("others 128", x.gates(0, 0, 128), Check.UNKNOWN);
        Check.same("others -1", x.gates(0, 0, -1), Check.UNKNOWN);
        Check.same("others least", x.gates(0, 0, Integer.MIN_VALUE), Check.UNKNOWN);
        Check.same("the fewest ahead of the least", Check.made(LONG).gates(7, 0, 64), 257);
    }

    private static void cutting() {
        GossipArches x = Check.made(LONG);
        Check.same("three gates", x.cut(7, 0, 0), 3);
        Check.same("of like ones the least", x.cut(7, 0, 1), 193);
        Check.same("the spring", x.cut(0, 0, 0), Check.NONE);
        Check.same("the spring, the set", x.cut(0, 0, 1), Check.NONE);
        x.gate(0, true);
        Check.same("two more", x.cut(7, 0, 1), 192);
        x.crack(8, 7);
        Check.same("the crack, too", x.cut(7, 0, 1), 384);
        x.gate(7, true);
        x.gate(8, true);
        Check.same("cut off already", x.cut(7, 0, 0), 0);
        Check.same("cut at 8", x.cut(8, 0, 5), Check.UNKNOWN);
        Check.same("cut at -1", x.cut(-1, 0, 0), Check.UNKNOWN);
        Check.same("cut of 8", x.cut(0, 8, 0), Check.UNKNOWN);
        Check.same("cut what 2", x.cut(0, 0, 2), Check.OUTSIDE);
        Check.same("cut what -1", x.cut(0, 0, -1), Check.OUTSIDE);
        // M is of no matter: with room for one, a second set would not go in
        GossipArches y = Check.made("s1;p0 9;p0 8;p0 7;p0 6;c0 1 1;c0 2 3;c1 2 1;c2 3 1;");
        y.letIn(1);
        y.hour(9);
        Check.same("silt is of no matter", y.gates(3, 0, 2), 1);
    }

    private static void meeting() {
        GossipArches x = Check.made(LONG);
        Check.same("at once", x.meet(0, 1, 0), 0);
        Check.same("a way shorter by 10", x.meet(0, 1, 10), 11);
        Check.same("a way shorter by 13", x.meet(1, 0, 13), 14);
        Check.same("no such way", x.meet(0, 1, 12), Check.NONE);
        Check.same("d 31", x.meet(0, 1, 31), Check.OUTSIDE);
        Check.same("d -1", x.meet(0, 1, -1), Check.OUTSIDE);
        Check.same("one twice", x.meet(3, 3, 99), Check.UNKNOWN);
        Check.same("of 8", x.meet(8, 0, 0), Check.UNKNOWN);
        Check.same("of -1", x.meet(0, -1, 31), Check.UNKNOWN);
        x.gate(9, true);
        Check.same("a gate parts them", x.meet(0, 1, 13), Check.NONE);
        // by 0 1 9 .. 5 6 9 comes hour 54, by 0 6 2 hour 2
        Check.same("52 is outside", x.meet(0, 1, 52), Check.OUTSIDE);
        GossipArches tank = Check.made("s1;p0 9;p1 8;p0 7;c0 1 4;c1 2 4;c0 2 2;");
        Check.same("even ones take both ways", tank.meet(0, 1, 6), 8);
        Check.same("odd ones do not", tank.meet(1, 0, 6), Check.NONE);
        Check.same("silt is of no matter", tank.meet(0, 2, 6), 8);
        tank.gate(1, true);
        tank.crack(0, 2);
        Check.same("a crack is no coming", tank.meet(0, 1, 2), Check.NONE);
        Check.same("without works", new GossipArches().meet(0, 7, 30), Check.NONE);
        Check.same("without works, one twice", new GossipArches().meet(7, 7, 0), Check.UNKNOWN);
        GossipArches late = Check.made(
            "s9;p0 9;p0 8;p0 7;p0 6;p0 5;p0 4;p0 3;p0 2;"
            + "c0 1 9;c1 2 9;c2 3 9;c3 4 9;c4 5 9;c5 6 9;c6 7 6;c0 3 1;c1 4 2;");
        // to 3 by hours 1, 27; to 4 by 10, 11, 36
        Check.same("at 3 already", late.meet(0, 1, 26), 27);
        late.gate(2, true);
        Check.same("less ways", late.meet(0, 1, 1), 11);
        String six = "s9;p0 9;p0 8;p0 7;p0 6;p0 5;p0 4;p0 3;p0 2;c0 1 9;c1 2 9;c2 3 9;c3 4 9;c4 5 9;c5 6 9;c3 7 3;";
        Check.same("the sixtieth hour", Check.made(six + "c6 7 6;").meet(0, 1, 30), 60);
        Check.same("the next is too late", Check.made(six.replace("c3 7 3", "c3 7 4") + "c6 7 7;").meet(0, 1, 30), Check.NONE);
    }

    private static void waysCounted() {
        GossipArches x = Check.made(LONG);
        Check.same("the longest", x.longest(7), 63);
        Check.same("four ways", x.ways(7), 4);
        Check.same("the spring", x.longest(0), 0);
        Check.same("the spring is one way", x.ways(0), 1);
        x.gate(4, true);
        Check.same("another", x.longest(7), 14);
        Check.same("three ways", x.ways(7), 3);
        x.gate(9, true);
        Check.same("two ways", x.ways(7), 2);
        Check.same("no way", x.longest(5), Check.NONE);
        Check.same("none", x.ways(5), 0);
        Check.same("longest at 8", x.longest(8), Check.UNKNOWN);
        Check.same("longest at -1", x.longest(-1), Check.UNKNOWN);
        Check.same("ways at 8", x.ways(8), Check.UNKNOWN);
        Check.same("ways at -1", x.ways(-1), Check.UNKNOWN);
        // kinds and silt are of no matter, a place above the spring cannot be reached
        GossipArches y = Check.made("s1;p3 5;p0 9;p0 4;c1 0 1;c1 2 1;c0 2 3;");
        Check.same("through a tap", y.longest(2), 3);
        Check.same("through a tap, ways", y.ways(2), 1);
        Check.same("above the spring", y.longest(1), Check.NONE);
        // a channel told ahead of the one that leads to it
        GossipArches z = Check.made("s1;p0 9;p0 3;p0 6;c2 1 2;c0 2 5;c0 1 6;");
        Check.same("told in another order", z.longest(1), 7);
        Check.same("told in another order, ways", z.ways(1), 2);
    }

    private static void blockedFirst() {
        Check.same("without works", new GossipArches().firstBlocked(), Check.NONE);
        GossipArches x = Check.made(Check.QUARTER);
        Check.same("the first", x.firstBlocked(), 0);
        x.gate(0, true);
        Check.same("nothing goes in", x.firstBlocked(), Check.NONE);
        GossipArches y = Check.made("s3;p0 9;p0 8;p0 7;p0 6;c0 1 1;c0 2 1;c2 3 1;");
        Check.same("of like ones the least", y.firstBlocked(), 0);
        y.letIn(2);
        y.gate(0, true);
        y.hour(1);
        y.gate(0, false);
        Check.same("silt as it is", y.firstBlocked(), 1);
        y.letIn(6);
        y.hour(1);
        Check.same("blocked now, both but 0", y.told(6), 2);
        Check.same("those blocked now do not count", y.firstBlocked(), 0);
        y.gate(0, true);
        // on its way to 2: 6 of hour 1; no more can come
        y.letIn(1);
        Check.same("what is on its way counts", y.firstBlocked(), 2);
        y.hour(5);
        Check.same("all are", y.firstBlocked(), Check.NONE);
        GossipArches z = Check.made("s99;p0 9;p0 8;c0 1 1;");
        Check.same("the 99th hour", z.firstBlocked(), 0);
        GossipArches w = Check.made("s99;p0 9;p0 8;p0 7;c0 1 1;c1 2 1;");
        w.gate(0, true);
        w.gate(1, true);
        Check.same("shut", w.firstBlocked(), Check.NONE);
        w.gate(0, false);
        Check.same("open", w.firstBlocked(), 0);
        GossipArches v = Check.made("s99;p0 9;p0 8;p0 7;c0 1 1;c1 2 1;");
        v.letIn(255);
        for (int i = 0; i < 13; i++) {
            v.hour(1);
            v.letIn(255);
        }
        v.clear(1);
        v.empty();
        Check.same("as all is", v.firstBlocked(), 0);
    }

    private static void shares() {
        GossipArches x = Check.made(Check.QUARTER);
        Check.same("nothing was heard", x.share(3), 0);
        x.letIn(7);
        x.hour(1);
        Check.same("all", x.share(0), 1000);
        x.letIn(1);
        x.hour(2);
        Check.same("half", x.share(1), 500);
        x.crack(2, 6);
        x.hour(1);
        Check.same("each once", x.share(0), 428);
        Check.same("by a crack", x.share(6), 142);
        Check.same("share at 7", x.share(7), Check.UNKNOWN);
        Check.same("share at -1", x.share(-1), Check.UNKNOWN);
        Check.same("without works", new GossipArches().share(0), Check.UNKNOWN);
    }

    private static void frosts() {
        GossipArches x = new GossipArches();
        Check.same("no hours", x.frost(0, 100), 1000000000);
        Check.same("sure frost", x.frost(1, 100), 0);
        Check.same("no frost", x.frost(60, 0), 1000000000);
        Check.same("half", x.frost(2, 50), 250000000);
        // 970000000, 940900000, 912673000, 885292810, 858734025 (.7 is cut), 832972004 (.25), 807982843 (.88)
        Check.same("cut each time", x.frost(7, 3), 807982843);
        // 1000000000 by 2 / 100 each: 20000000, 400000, 8000, 160, 3, 0
        Check.same("cut at the fifth", x.frost(5, 98), 3);
        Check.same("cut at the sixth", x.frost(6, 98), 0);
        Check.same("n 61", x.frost(61, 0), Check.OUTSIDE);
        Check.same("n -1", x.frost(-1, 0), Check.OUTSIDE);
        Check.same("q 101", x.frost(0, 101), Check.OUTSIDE);
        Check.same("q -1", x.frost(0, -1), Check.OUTSIDE);
    }
}
