/**
 * Section 1, promises 3 to 5: not drawn texts, but every short one of the letters that matter, alone and behind several
 * beginnings, beside the slow twin.
 */
public final class ShortTextsTest {
    /** The words, figures at the bounds, a blank, and a letter that is no word. */
    private static final String LETTERS = "spc;019 x";
    private static final int LETTERS_MOST = 5, CALLS_MOST = 512, FAULTS_SHOWN = 20;
    private static final String EIGHT = "s1;p0 9;p0 8;p0 7;p0 6;p0 5;p0 4;p0 3;p0 2;";
    private static final String[] BEGINNINGS = {
        "",
        "s1;",
        "s9;p",
        "s1;p0 9;p0 1;c",
        "s1;p0 9;p0 1;c0 1 1;c0 ",
        EIGHT,
        EIGHT + "c0 1 1;c0 2 1;c0 3 1;c0 4 1;c0 5 1;c0 6 1;c0 7 1;c1 2 1;c1 3 1;",
    };

    private GossipArches x;
    private SlowArches y;
    private int calls = CALLS_MOST;

    public static void main(String[] args) {
        ShortTextsTest test = new ShortTextsTest();
        for (String beginning : BEGINNINGS) {
            test.tryAllBehind(beginning, LETTERS_MOST);
        }
        Check.end();
    }

    private void tryAllBehind(String text, int more) {
        compare(text);
        for (int i = 0; more > 0 && i < LETTERS.length() && Check.wrongSoFar() < FAULTS_SHOWN; i++) {
            tryAllBehind(text + LETTERS.charAt(i), more - 1);
        }
    }

    /** On objects that have read other texts before, so that nothing of those may be left over. */
    private void compare(String text) {
        int needed = text.length() + 5;
        if (calls + needed > CALLS_MOST) {
            x = new GossipArches();
            y = new SlowArches();
            calls = 0;
        }
        calls += needed;
        for (int i = 0; i < text.length(); i++) {
            x.feed(text.charAt(i));
            y.feed(text.charAt(i));
        }
        Check.same("works of '" + text + "'", x.works(), y.works());
        Check.same("fault of '" + text + "'", x.fault(), y.fault());
        for (int what = 0; what <= 2; what++) {
            Check.same("told " + what + " of '" + text + "'", x.told(what), y.told(what));
        }
    }
}
