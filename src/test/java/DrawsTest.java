/** Promises 33 to 35: the seed, images. */
public final class DrawsTest {
    public static void main(String[] args) {
        seeds();
        images();
        imagesAndUndoing();
        Check.end();
    }

    private static void seeds() {
        GossipArches x = new GossipArches();
        Check.same("at first", x.seed(5), 0);
        Check.same("then", x.seed(2147483647), 5);
        Check.same("seed -1", x.seed(-1), Check.OUTSIDE);
        Check.same("seed least", x.seed(Integer.MIN_VALUE), Check.OUTSIDE);
        Check.same("refused: as it was", x.seed(0), 2147483647);
        GossipArches y = Check.made("s99;p0 9;");
        y.seed(2147483647);
        y.drift(1);
        // 2147483647 times 1103515245 and 12345 is 1043980748 left over; / 65536 = 15929, left over by 3 is 2
        Check.same("the greatest seed", y.seed(0), 1043980748);
        Check.same("no saying", y.place(0, 2), 0);
        GossipArches z = Check.made("s99;p0 9;");
        z.drift(20);
        long seed = 0;
        int heard = 0;
        for (int i = 0; i < 20; i++) {
            seed = (seed * 1103515245L + 12345L) % 2147483648L;
            if (seed / 65536 % 3 == 0) {
                seed = (seed * 1103515245L + 12345L) % 2147483648L;
                heard |= 1 << (int) (seed / 65536 % 8);
            }
        }
        Check.same("twenty hours: heard", z.place(0, 2), heard);
        Check.same("twenty hours: seed", z.seed(0), (int) seed);
    }

    private static void images() {
        GossipArches x = Check.made(Check.QUARTER);
        Check.same("keep 2", x.keep(2), Check.UNKNOWN);
        Check.same("keep -1", x.keep(-1), Check.UNKNOWN);
        Check.same("goBack 2", x.goBack(2), Check.UNKNOWN);
        Check.same("goBack -1", x.goBack(-1), Check.UNKNOWN);
        Check.same("not kept", x.goBack(0), Check.NOT);
        x.letIn(7);
        x.gate(3, true);
        x.crack(1, 6);
        x.hour(3);
        x.seed(9);
        Check.same("kept", x.keep(1), 1);
        Check.same("the other is not", x.goBack(0), Check.NOT);
        x.hour(7);
        x.gate(3, false);
        x.crack(1, Check.NONE);
        x.clear(0);
        x.seed(10);
        x.drip(0, 0, 0);
        x.write(0, 0);
        Check.same("kept, too", x.keep(0), 1);
        Check.same("gone back", x.goBack(1), 1);
        Check.same("hours", x.told(4), 3);
        Check.same("shut", x.told(5), 8);
        Check.same("crack", x.channel(1, 5), 6);
        Check.same("silt", x.channel(0, 3), 3);
        Check.same("heard", x.place(3, 2), 0);
        Check.same("dripped", x.first(6, 2), 2);
        Check.same("yet to come", x.told(7), 6);
        Check.same("drips are no part of it", x.told(8), 1);
        Check.same("nor is the book", x.told(9), 1);
        Check.same("seed", x.seed(11), 9);
        x.empty();
        Check.same("gone back again", x.goBack(1), 1);
        Check.same("the image is as it was", x.place(6, 2), 7);
        Check.same("with its first", x.first(6, 2), 2);
        Check.same("its seed is as it was", x.seed(0), 9);
        Check.same("the other image", x.goBack(0), 1);
        Check.same("its hours", x.told(4), 10);
        Check.same("its seed", x.seed(0), 10);
        Check.same("kept anew", x.keep(1), 1);
        x.hour(1);
        x.goBack(1);
        Check.same("the new image", x.told(4), 10);
        Check.same("without works", new GossipArches().keep(0), 1);
    }

    private static void imagesAndUndoing() {
        GossipArches x = Check.made(Check.QUARTER);
        x.hour(1);
        x.hour(1);
        Check.same("refused: undoing stays", x.keep(2), Check.UNKNOWN);
        Check.same("refused again", x.goBack(0), Check.NOT);
        Check.same("two can be", x.told(10), 2);
        x.keep(0);
        Check.same("none can be", x.told(10), 0);
        Check.same("none is", x.undo(), Check.NOT);
        x.hour(1);
        Check.same("one can be", x.told(10), 1);
        x.goBack(0);
        Check.same("none can be then", x.undo(), Check.NOT);
        x.hour(5);
        Check.same("undone", x.undo(), 0);
        Check.same("back at the image", x.told(4), 2);
    }
}
