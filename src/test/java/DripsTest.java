/** Promises 27 to 32: drips, the book. */
public final class DripsTest {
    public static void main(String[] args) {
        dripping();
        crackSearch();
        listening();
        book();
        tearing();
        Check.end();
    }

    private static void dripping() {
        GossipArches x = Check.made(Check.QUARTER);
        Check.same("drip at 7", x.drip(7, 0, 61), Check.UNKNOWN);
        Check.same("drip at -1", x.drip(-1, 0, 0), Check.UNKNOWN);
        Check.same("drip of 8", x.drip(0, 8, 0), Check.UNKNOWN);
        Check.same("drip of -1", x.drip(0, -1, 0), Check.UNKNOWN);
        Check.same("drip at hour 61", x.drip(0, 0, 61), Check.OUTSIDE);
        Check.same("drip at hour 98", x.drip(0, 0, 98), Check.OUTSIDE);
        Check.same("drip at hour 100", x.drip(0, 0, 100), Check.OUTSIDE);
        Check.same("drip at hour -1", x.drip(0, 0, -1), Check.OUTSIDE);
        Check.same("drip at hour 0", x.drip(6, 7, 0), 1);
        Check.same("drip at hour 60", x.drip(0, 0, 60), 2);
        Check.same("drip never", x.drip(0, 0, 99), 3);
        for (int i = 4; i <= 6; i++) {
            Check.same("drips", x.drip(0, 0, 0), i);
        }
        Check.same("a seventh", x.drip(0, 0, 0), Check.FULL);
        Check.same("outside ahead of full", x.drip(0, 0, 61), Check.OUTSIDE);
        Check.same("as told", x.told(8), 6);
        Check.same("without works", new GossipArches().drip(0, 0, 0), Check.UNKNOWN);
    }

    private static void crackSearch() {
        GossipArches x = Check.made(Check.QUARTER);
        Check.same("cracked to 7", x.cracked(7), Check.UNKNOWN);
        Check.same("cracked to -1", x.cracked(-1), Check.UNKNOWN);
        Check.same("no drips: all fits", x.cracked(0), 1151);
        x.drip(6, 1, 2);
        Check.same("heard at 6 at hour 2", x.cracked(6), 6);
        Check.same("by a crack elsewhere", x.cracked(5), 0);
        x.drip(3, 1, 6);
        Check.same("the other does not matter", x.cracked(6), 6);
        x.drip(3, 1, 5);
        Check.same("both cannot be", x.cracked(6), 0);
        x.tear();
        x.drip(6, 0, 7);
        x.crack(0, 6);
        Check.same("cracks there are do not count", x.cracked(6), 1024 + 32);
        x.gate(1, true);
        Check.same("gates do", x.cracked(6), 0);
        x.tear();
        x.drip(6, 0, 99);
        Check.same("never, shut ones and the tap's", x.cracked(6), 1024 + 2 + 8 + 16 + 32);
        // M is of no matter: saying 0 comes to place 2 at hours 2 and 3, to place 3 at 3 and 4
        GossipArches y = Check.made("s1;p0 9;p0 8;p0 7;p0 6;c0 1 1;c0 2 3;c1 2 1;c2 3 1;");
        y.gate(2, true);
        y.drip(3, 0, 4);
        Check.same("by the later way", y.cracked(1), 1024 + 15);
    }

    private static void listening() {
        GossipArches x = Check.made(Check.QUARTER);
        Check.same("listen to 7", x.listen(7), Check.UNKNOWN);
        Check.same("listen to -1", x.listen(-1), Check.UNKNOWN);
        Check.same("at the crack's place", x.listen(6), 6);
        Check.same("the spring hears at once whatever cracks", x.listen(0), Check.NONE);
        x.drip(6, 0, 0);
        Check.same("one is left", x.cracked(6), 1);
        Check.same("one alone is not parted", x.listen(6), Check.NONE);
        x.tear();
        x.drip(6, 0, 2);
        Check.same("two are left", x.cracked(6), 6);
        Check.same("both at hour 2", x.listen(6), Check.NONE);
        x.tear();
        x.drip(5, 0, 6);
        Check.same("one at hour 6", x.cracked(5), 64);
        Check.same("one is not parted", x.listen(5), Check.NONE);
        x.tear();
        x.drip(5, 1, 12);
        Check.same("odd ones do not pass the tank", x.cracked(5), 1024 + 8 + 16 + 32);
        // saying 0 at 5: by 3 and 4 at hour 5; by 5 (behind a tap) and by none at 12: two parts of 2
        Check.same("saying 0 parts them", x.listen(5), 5);
        x.drip(5, 0, 12);
        Check.same("none, or one that nobody can hear", x.cracked(5), 1024 + 32);
        Check.same("those are not parted", x.listen(5), Check.NONE);
        x.drip(5, 0, 6);
        Check.same("nothing fits", x.cracked(5), 0);
        Check.same("nothing is parted", x.listen(5), Check.NONE);
        Check.same("two are parted", Check.made("s9;p0 9;p0 8;c0 1 3;").listen(1), 1);
    }

    private static void book() {
        GossipArches x = Check.made(Check.QUARTER);
        Check.same("an empty book", x.judge(), Check.NONE);
        Check.same("write at 7", x.write(7, 256), Check.UNKNOWN);
        Check.same("write at -1", x.write(-1, 0), Check.UNKNOWN);
        Check.same("write 256", x.write(0, 256), Check.OUTSIDE);
        Check.same("write -1", x.write(0, -1), Check.OUTSIDE);
        Check.same("write", x.write(0, 3), 1);
        Check.same("write another", x.write(1, 0), 2);
        Check.same("otherwise now", x.judge(), 0);
        x.letIn(3);
        x.hour(1);
        Check.same("so now", x.judge(), Check.NONE);
        x.hour(2);
        Check.same("the second is wrong", x.judge(), 1);
        x.undo();
        Check.same("right again", x.judge(), Check.NONE);
        x.empty();
        Check.same("the first that is wrong", x.judge(), 0);
        Check.same("the greatest set", x.write(6, 255), 3);
        for (int i = 4; i <= 15; i++) {
            Check.same("entries", x.write(0, 0), i);
        }
        Check.same("a sixteenth", x.write(0, 0), Check.FULL);
        Check.same("outside ahead of full", x.write(0, 256), Check.OUTSIDE);
        Check.same("as told", x.told(9), 15);
        x.tear();
        x.write(0, 0);
        x.write(6, 255);
        Check.same("the greatest set is wrong", x.judge(), 1);
    }

    private static void tearing() {
        GossipArches x = Check.made(Check.QUARTER);
        x.drip(0, 0, 0);
        x.drip(1, 0, 9);
        x.write(0, 1);
        Check.same("both had", x.tear(), 3);
        Check.same("no drips", x.told(8), 0);
        Check.same("no book", x.told(9), 0);
        Check.same("nothing is wrong", x.judge(), Check.NONE);
        Check.same("all fits", x.cracked(0), 1151);
        Check.same("again", x.tear(), 0);
    }
}
