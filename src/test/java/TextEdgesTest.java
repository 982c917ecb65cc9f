/**
 * The bounds of section 1 and of promises 1 to 8, each on both sides. Every method stands for a sentence of the document.
 */
public final class TextEdgesTest {
    private static final String EIGHT = "s1;p0 9;p0 8;p0 7;p0 6;p0 5;p0 4;p0 3;p0 2;";
    private static final String TEN = EIGHT + "c0 1 1;c0 2 1;c0 3 1;c0 4 1;c0 5 1;c0 6 1;c0 7 1;c1 2 1;c1 3 1;c1 4 1;";
    private static final String TWO = "s1;p0 2;p0 1;";

    public static void main(String[] args) {
        lettersAre0To255();
        lettersAreAtMost240();
        theLastOf240LettersCounts();
        roomIs1To99();
        roomIsFirst();
        roomIsOnce();
        kindsAre0To3();
        levelsAre0To99();
        placesAreAtMost8();
        channelsAreAtMost10();
        endsAreToldAhead();
        endsAreUnlike();
        noTwoFromTheSameToTheSame();
        endsLieLower();
        hoursOfChannelsAre1To9();
        numbersHaveOneToThreeFigures();
        blanksMayStandAnywhereButWithinNumbers();
        aBlankAtEachSpot();
        twoNumbersSideBySideNeedABlank();
        lettersThatAreNoWord();
        theEndIsAtTheTextsLength();
        theFirstLetterThatHasAFault();
        ofSeveralTheLeast();
        anEmptyTextIsNoWorks();
        theTextIsEmptyThen();
        worksBeginAnew();
        faultIsOfTheLatestWorks();
        toldIs0To10();
        toldOfBlockedAndYetToCome();
        placeIs0To2();
        channelIs0To5();
        firstOfSayings0To7();
        Check.end();
    }

    private static void works(String text, int due, int fault) {
        GossipArches x = new GossipArches();
        Check.feed(x, text);
        Check.same("works of '" + text + "'", x.works(), due);
        Check.same("fault of '" + text + "'", x.fault(), fault);
    }

    private static void good(String text, int places) {
        works(text, places, Check.NONE);
    }

    // ---- feed

    private static void lettersAre0To255() {
        GossipArches x = new GossipArches();
        Check.same("letter -1", x.feed(-1), Check.OUTSIDE);
        Check.same("letter -1 is not there", x.told(3), 0);
        Check.same("letter 0", x.feed(0), 1);
        Check.same("letter 255", x.feed(255), 2);
        Check.same("letter 256", x.feed(256), Check.OUTSIDE);
        Check.same("letter 256 is not there", x.told(3), 2);
        Check.same("a letter is not cut to its last bits", x.feed(256 + 's'), Check.OUTSIDE);
        Check.same("letter 0 cannot stand there", x.works(), -11);
        Check.same("at it", x.fault(), 0);
    }

    private static void lettersAreAtMost240() {
        GossipArches x = new GossipArches();
        Check.feed(x, "s1;p0 1;" + " ".repeat(230));
        Check.same("238 letters", x.told(3), 238);
        Check.same("the 239th", x.feed(32), 239);
        Check.same("the 240th", x.feed(32), 240);
        Check.same("the 241st", x.feed('x'), Check.FULL);
        Check.same("outside ahead of full", x.feed(256), Check.OUTSIDE);
        Check.same("240 letters", x.told(3), 240);
        Check.same("the 241st is not there", x.works(), 1);
        Check.same("no letters then", x.told(3), 0);
        Check.same("room again", x.feed('s'), 1);
        // a fault makes room, too
        x.works();
        for (int i = 1; i <= 240; i++) {
            Check.same("240 again", x.feed(32), i);
        }
        Check.same("full again", x.feed(32), Check.FULL);
    }

    private static void theLastOf240LettersCounts() {
        good(" ".repeat(232) + "s1;p0 1;", 1);
        works(" ".repeat(233) + "s1;p0 1", -11, 240);
        works(" ".repeat(236) + "s1;x", -11, 239);
        works(" ".repeat(236) + "s1;s", -13, 239);
        works(" ".repeat(236) + "s100", -12, 237);
        works(" ".repeat(239) + "s", -11, 240);
        works(" ".repeat(239) + "p", -11, 239);
        works("s" + " ".repeat(238) + "0", -12, 239);
        works("s1;" + "p".repeat(237), -11, 4);
        // the 240 letters hold 8 places and 10 channels
        int left = 240 - TEN.length();
        good(TEN + " ".repeat(left), 8);
        works(TEN + " ".repeat(left - 1) + "c", -13, 239);
    }

    // ---- 's' M ';'

    private static void roomIs1To99() {
        works("s0;", -12, 1);
        good("s1;", 0);
        good("s99;", 0);
        works("s100;", -12, 1);
        works("s999;", -12, 1);
        works("s000;", -12, 1);
        Check.same("M 1", Check.made("s001;").told(0), 1);
        Check.same("M 99", Check.made("s099;").told(0), 99);
        GossipArches x = Check.made("s99;p0 9;");
        Check.feed(x, "s100;p0 9;");
        Check.same("M 100 is a fault", x.works(), -12);
        Check.same("M 99 stays", x.told(0), 99);
    }

    private static void roomIsFirst() {
        works("p0 1;s1;", -11, 0);
        works("c0 1 1;s1;", -11, 0);
        works("p", -11, 0);
        works("c", -11, 0);
        works(" p", -11, 1);
        works(";s1;", -11, 0);
        works("1s1;", -11, 0);
        good("s1;p0 1;", 1);
        good(" s1;p0 1;", 1);
    }

    private static void roomIsOnce() {
        works("s1;s1;", -13, 3);
        works("s1;s", -13, 3);
        works("s1;sx", -13, 3);
        works("s1;s0;", -13, 3);
        works("s1;p0 1; s1;", -13, 9);
        works(TEN + "s", -13, TEN.length());
        // once more in the next text is not again
        GossipArches x = Check.made("s1;p0 1;");
        Check.feed(x, "s2;p0 1;p0 1;");
        Check.same("the next text", x.works(), 2);
    }

    // ---- 'p' K L ';'

    private static void kindsAre0To3() {
        for (int kind = 0; kind <= 3; kind++) {
            Check.same("kind " + kind, Check.made("s1;p" + kind + " 5;").place(0, 0), kind);
        }
        works("s1;p4 5;", -12, 4);
        works("s1;p9 5;", -12, 4);
        works("s1;p10 5;", -12, 4);
        works("s1;p999 5;", -12, 4);
        Check.same("kind 003", Check.made("s1;p003 5;").place(0, 0), 3);
        works("s1;p004 5;", -12, 4);
    }

    private static void levelsAre0To99() {
        Check.same("level 0", Check.made("s1;p0 0;").place(0, 1), 0);
        Check.same("level 000", Check.made("s1;p0 000;").place(0, 1), 0);
        Check.same("level 99", Check.made("s1;p0 99;").place(0, 1), 99);
        Check.same("level 099", Check.made("s1;p0 099;").place(0, 1), 99);
        works("s1;p0 100;", -12, 6);
        works("s1;p0 999;", -12, 6);
        good("s1;p0 99;p0 98;c0 1 1;", 2);
        good("s1;p0 1;p0 0;c0 1 1;", 2);
    }

    private static void placesAreAtMost8() {
        String seven = EIGHT.substring(0, EIGHT.length() - 5);
        good(seven, 7);
        Check.same("the eighth is not there", Check.made(seven).place(7, 0), Check.UNKNOWN);
        good(EIGHT, 8);
        Check.same("the eighth is there", Check.made(EIGHT).place(7, 1), 2);
        Check.same("a ninth is not", Check.made(EIGHT).place(8, 1), Check.UNKNOWN);
        works(EIGHT + "p0 1;", -13, EIGHT.length());
        works(EIGHT + "p", -13, EIGHT.length());
        works(EIGHT + " p4 100;", -13, EIGHT.length() + 1);
        good("s1;", 0);
        good("s1;p0 1;", 1);
    }

    // ---- 'c' A B H ';'

    private static void channelsAreAtMost10() {
        String nine = TEN.substring(0, TEN.length() - 7);
        Check.same("nine", Check.made(nine).told(2), 9);
        Check.same("the tenth is not there", Check.made(nine).channel(9, 0), Check.UNKNOWN);
        Check.same("ten", Check.made(TEN).told(2), 10);
        Check.same("the tenth is there", Check.made(TEN).channel(9, 1), 4);
        Check.same("an eleventh is not", Check.made(TEN).channel(10, 1), Check.UNKNOWN);
        works(TEN + "c1 5 1;", -13, TEN.length());
        works(TEN + "c", -13, TEN.length());
        works(TEN + "cx", -13, TEN.length());
        Check.same("none", Check.made(EIGHT).told(2), 0);
        Check.same("one", Check.made(EIGHT + "c6 7 1;").told(2), 1);
    }

    private static void endsAreToldAhead() {
        works("s1;c0 0 1;", -12, 4);
        works("s1;p0 2;c1 0 1;p0 1;", -12, 9);
        works("s1;p0 2;c0 1 1;p0 1;", -12, 11);
        good(TWO + "c0 1 1;", 2);
        works(TWO + "c2 0 1;", -12, 14);
        works(TWO + "c0 2 1;", -12, 16);
        works(TWO + "c00 002 1;", -12, 17);
        good(TWO + "c00 001 1;", 2);
        good(EIGHT + "c6 7 1;", 8);
        works(EIGHT + "c6 8 1;", -12, EIGHT.length() + 3);
        works(EIGHT + "c8 7 1;", -12, EIGHT.length() + 1);
        // told by then, though not at first
        good("s1;p0 3;p0 2;c0 1 1;p0 1;c1 2 1;", 3);
    }

    private static void endsAreUnlike() {
        works("s1;p0 2;c0 0 1;", -14, 11);
        works(TWO + "c1 1 1;", -14, 16);
        works(TWO + "c1 001 1;", -14, 16);
        good(TWO + "c0 1 1;", 2);
    }

    private static void noTwoFromTheSameToTheSame() {
        String three = "s1;p0 3;p0 2;p0 1;";
        good(three + "c0 1 1;c0 2 1;", 3);
        good(three + "c0 2 1;c1 2 1;", 3);
        works(three + "c0 2 1;c1 2 1;c0 2 1;", -14, 35);
        works(three + "c0 2 1;c0 2 2;", -14, 28);
        works(three + "c0 1 1;c0 01 9;", -14, 28);
        // the way back is uphill
        works(three + "c0 1 1;c1 0 1;", -14, 28);
        // the tenth like the first
        String nine = TEN.substring(0, TEN.length() - 7);
        works(nine + "c0 1 9;", -14, nine.length() + 3);
    }

    private static void endsLieLower() {
        good("s1;p0 50;p0 49;c0 1 1;", 2);
        works("s1;p0 50;p0 50;c0 1 1;", -14, 18);
        works("s1;p0 50;p0 51;c0 1 1;", -14, 18);
        good("s1;p0 50;p0 51;c1 0 1;", 2);
        works("s1;p0 0;p0 0;c1 0 1;", -14, 16);
        good("s1;p0 99;p0 0;c0 1 1;", 2);
    }

    private static void hoursOfChannelsAre1To9() {
        works(TWO + "c0 1 0;", -12, 18);
        Check.same("hours 1", Check.made(TWO + "c0 1 1;").channel(0, 2), 1);
        Check.same("hours 9", Check.made(TWO + "c0 1 9;").channel(0, 2), 9);
        Check.same("hours 009", Check.made(TWO + "c0 1 009;").channel(0, 2), 9);
        works(TWO + "c0 1 10;", -12, 18);
        works(TWO + "c0 1 010;", -12, 18);
        works(TWO + "c0 1 000;", -12, 18);
    }

    // ---- numbers, blanks, words

    private static void numbersHaveOneToThreeFigures() {
        works("s;", -11, 1);
        good("s5;", 0);
        good("s05;", 0);
        good("s005;", 0);
        works("s0005;", -12, 1);
        works("s00005;", -12, 1);
        works("s" + "0".repeat(239), -12, 1);
        works("s4294967297;", -12, 1);
        works("s18446744073709551617;", -12, 1);
        works("s1;p;", -11, 4);
        works("s1;p0000 5;", -12, 4);
        works("s1;p0 ;", -11, 6);
        works("s1;p0 0005;", -12, 6);
        works(TWO + "c;", -11, 14);
        works(TWO + "c0000 1 1;", -12, 14);
        works(TWO + "c0 0001 1;", -12, 16);
        works(TWO + "c0 1 0001;", -12, 18);
        works(TWO + "c0 1 ;", -11, 18);
        good(TWO + "c000 001 001;", 2);
    }

    private static void blanksMayStandAnywhereButWithinNumbers() {
        good("s 5 ; p 0 2 ; p 0 1 ; c 0 1 1 ; ", 2);
        good("   s   5   ;   p   0   2   ;   ", 1);
        works("s1 0;", -11, 3);
        works("s1  0;", -11, 4);
        works("s1;p0 1 0;", -11, 8);
        works(TWO + "c0 1 1 1;", -11, 20);
        // 32 alone is a blank
        works("s1;" + (char) 31, -11, 3);
        works("s1;" + (char) 33, -11, 3);
        works("s1;" + (char) 9, -11, 3);
        works("s1;" + (char) 10, -11, 3);
        works("s1;" + (char) 160, -11, 3);
        good("s1;" + (char) 32, 0);
    }

    /** A blank put in at each spot of a whole text: between two figures it parts a number, elsewhere it changes nothing. */
    private static void aBlankAtEachSpot() {
        String whole = "s10;p0 20;p003 010;c0 01 1;";
        for (int at = 0; at <= whole.length(); at++) {
            boolean within = at > 0 && at < whole.length()
                && Character.isDigit(whole.charAt(at - 1)) && Character.isDigit(whole.charAt(at));
            String text = whole.substring(0, at) + " " + whole.substring(at);
            if (!within) {
                good(text, 2);
                Check.same("M of '" + text + "'", Check.made(text).told(0), 10);
                Check.same("level of '" + text + "'", Check.made(text).place(1, 1), 10);
                Check.same("end of '" + text + "'", Check.made(text).channel(0, 1), 1);
            } else {
                GossipArches x = new GossipArches();
                Check.feed(x, text);
                Check.holds("two numbers for one are a fault: '" + text + "'", x.works() < -10);
            }
        }
    }

    private static void twoNumbersSideBySideNeedABlank() {
        works("s1;p05;", -12, 4);
        works("s1;p00;", -11, 6);
        good("s1;p0 5;", 1);
        good("s1;p0  5;", 1);
        // 1 1: the end is like the start
        works(TWO + "c01 1;", -14, 17);
        // 0 11: there is no place 11
        works(TWO + "c0 11;", -12, 16);
        works(TWO + "c011;", -12, 14);
        works(TWO + "c0;1 1;", -11, 15);
        good(TWO + "c0 1 1;", 2);
        // words need none
        good("s1;p0 5;p 0 5;", 2);
    }

    /** Each of the 256 letters at each kind of spot. */
    private static void lettersThatAreNoWord() {
        for (char letter = 0; letter < 256; letter++) {
            boolean figure = letter >= '0' && letter <= '9';
            boolean blank = letter == ' ';
            if (!blank) {
                works("" + letter, -11, letter == 's' ? 1 : 0);
            }
            if (letter == 's') {
                works("s1;" + letter, -13, 3);
            } else if (letter == 'p' || letter == 'c') {
                works("s1;" + letter, -11, 4);
            } else {
                works("s1;" + letter, blank ? 0 : -11, blank ? Check.NONE : 3);
            }
            if (letter == '0') {
                works("s" + letter, -12, 1);
            } else {
                works("s" + letter, -11, figure || blank ? 2 : 1);
            }
            if (letter == ';') {
                good("s1" + letter, 0);
            } else {
                works("s1" + letter, -11, figure || blank ? 3 : 2);
            }
        }
    }

    // ---- faults

    private static void theEndIsAtTheTextsLength() {
        String whole = TWO + "c0 1 1;";
        for (int n = 1; n < whole.length(); n++) {
            String part = whole.substring(0, n);
            if (part.endsWith(";")) {
                good(part, n < 8 ? 0 : n < 13 ? 1 : 2);
            } else {
                works(part, -11, n);
                works(part + "  ", -11, n + 2);
            }
        }
        good(whole, 2);
    }

    private static void theFirstLetterThatHasAFault() {
        // 2 ahead of 1
        works("s0x", -12, 1);
        works("s0", -12, 1);
        works("s100", -12, 1);
        // 1 ahead of 2
        works("sx0;", -11, 1);
        works("s1x;p4 5;", -11, 2);
        // 2 ahead of 2: the kind, then the level; A, then B, then H
        works("s1;p4 100;", -12, 4);
        works("s1;p3 100;", -12, 6);
        works(TWO + "c2 2 0;", -12, 14);
        works(TWO + "c0 2 0;", -12, 16);
        works(TWO + "c0 1 0;", -12, 18);
        // 4 ahead of 2 and of 1
        works(TWO + "c1 0 0;", -14, 16);
        works(TWO + "c1 0", -14, 16);
        works(TWO + "c0 0x", -14, 16);
        // 2 ahead of 4
        works(TWO + "c2 2 1;", -12, 14);
        // 3 ahead of all that follows
        works(EIGHT + "p4 100;", -13, EIGHT.length());
        works("s1;p0 9;s0;x", -13, 8);
        // 1 ahead of 3
        works("s1;xs", -11, 3);
        // a clause counts when it is whole: the fault in it comes first
        works(EIGHT.substring(0, EIGHT.length() - 1) + "p", -11, EIGHT.length() - 1);
    }

    /** At one letter: 2 a number of four figures or a place not told, 4 were its value looked at. */
    private static void ofSeveralTheLeast() {
        works("s1;p0 2;c0 0000 1;", -12, 11);
        works(TWO + "c1 0000 1;", -12, 16);
        works(TWO + "c0 1 1;c0 0001 1;", -12, 23);
        works(TWO + "c0 1 1;c0 001 1;", -14, 23);
        works("s1;p0 2;c0 1 1;", -12, 11);
        // "another word first than 's'" where there are none told: 1, not 2 or 3
        works("c0 0 1;", -11, 0);
    }

    // ---- works, fault

    private static void anEmptyTextIsNoWorks() {
        GossipArches x = new GossipArches();
        Check.same("a new one", x.works(), 0);
        Check.same("no fault", x.fault(), Check.NONE);
        Check.same("no M", x.told(0), 0);
        Check.feed(x, TWO + "c0 1 1;");
        Check.same("works", x.works(), 2);
        x.letIn(1);
        x.hour(3);
        x.keep(1);
        x.drip(0, 0, 0);
        x.write(0, 0);
        x.letIn(1);
        x.seed(6);
        Check.same("no works", x.works(), 0);
        for (int what = 0; what <= 10; what++) {
            Check.same("no works: told " + what, x.told(what), 0);
        }
        Check.same("no works: no fault", x.fault(), Check.NONE);
        Check.same("no works: place", x.place(0, 2), Check.UNKNOWN);
        Check.same("no works: channel", x.channel(0, 3), Check.UNKNOWN);
        Check.same("no works: letIn", x.letIn(1), Check.NOT);
        Check.same("no works: undo", x.undo(), Check.NOT);
        Check.same("no works: image", x.goBack(1), Check.NOT);
        Check.same("no works: the seed stays", x.seed(0), 6);
        x.feed('s');
        Check.same("one letter is not empty", x.works(), -11);
        Check.same("its fault", x.fault(), 1);
        Check.same("empty again", x.works(), 0);
        Check.same("no fault again", x.fault(), Check.NONE);
    }

    private static void theTextIsEmptyThen() {
        GossipArches x = new GossipArches();
        Check.feed(x, "s1;p0 1;");
        Check.same("eight letters", x.told(3), 8);
        x.works();
        Check.same("none after works", x.told(3), 0);
        Check.feed(x, "s1;p0 1;q");
        Check.same("nine letters", x.told(3), 9);
        x.works();
        Check.same("none after a fault", x.told(3), 0);
        Check.feed(x, "s1;p0 1;p1 0;");
        Check.same("not behind the text with the fault", x.works(), 2);
        // what a text told ahead of its fault is not told
        Check.feed(x, TEN + "x");
        Check.same("a fault behind ten channels", x.works(), -11);
        Check.feed(x, "s2;p0 1;");
        Check.same("works of one place", x.works(), 1);
        Check.same("no channels are left over", x.told(2), 0);
        Check.same("no places are left over", x.told(1), 1);
        Check.same("no M is left over", x.told(0), 2);
    }

    private static void worksBeginAnew() {
        GossipArches x = Check.made(TEN);
        for (int c = 0; c < 10; c++) {
            x.crack(c, 7);
        }
        x.letIn(255);
        x.hour(1);
        x.keep(0);
        x.keep(1);
        x.gate(9, true);
        x.letIn(255);
        x.seed(2147483647);
        x.drip(7, 7, 60);
        x.write(7, 255);
        Check.feed(x, TEN);
        Check.same("the same works", x.works(), 8);
        for (int what = 3; what <= 10; what++) {
            Check.same("told " + what, x.told(what), 0);
        }
        for (int p = 0; p < 8; p++) {
            Check.same("nothing heard at " + p, x.place(p, 2), 0);
            Check.same("no first at " + p, x.first(p, 7), Check.NONE);
        }
        for (int c = 0; c < 10; c++) {
            Check.same("no silt in " + c, x.channel(c, 3), 0);
            Check.same("open " + c, x.channel(c, 4), 0);
            Check.same("no crack in " + c, x.channel(c, 5), Check.NONE);
        }
        Check.same("nothing to undo", x.undo(), Check.NOT);
        Check.same("no image 0", x.goBack(0), Check.NOT);
        Check.same("no image 1", x.goBack(1), Check.NOT);
        Check.same("nothing was let in", x.hour(9), 9);
        Check.same("nothing came", x.place(0, 2), 0);
        Check.same("the book was empty", x.judge(), Check.NONE);
        Check.same("no drips: all fits", x.cracked(0), 2047);
        Check.same("the seed stays", x.seed(0), 2147483647);
    }

    private static void faultIsOfTheLatestWorks() {
        GossipArches x = new GossipArches();
        Check.same("no works() yet", x.fault(), Check.NONE);
        Check.feed(x, "x");
        Check.same("letters alone have none", x.fault(), Check.NONE);
        x.works();
        Check.same("at 0", x.fault(), 0);
        Check.feed(x, "s1;p0 1;");
        Check.same("until the next works()", x.fault(), 0);
        x.works();
        Check.same("none", x.fault(), Check.NONE);
        Check.feed(x, "s1;p0 1;s");
        x.works();
        Check.same("at 8", x.fault(), 8);
        x.letIn(1);
        x.undo();
        Check.same("nothing else changes it", x.fault(), 8);
        Check.feed(x, "s1;p");
        x.works();
        Check.same("the latest", x.fault(), 4);
        x.works();
        Check.same("none of an empty text", x.fault(), Check.NONE);
    }

    // ---- told, place, channel, first

    private static void toldIs0To10() {
        GossipArches x = Check.made(TWO);
        Check.same("told -1", x.told(-1), Check.OUTSIDE);
        Check.same("told 0", x.told(0), 1);
        Check.same("told 10", x.told(10), 0);
        Check.same("told 11", x.told(11), Check.OUTSIDE);
        GossipArches none = new GossipArches();
        Check.same("none: told -1", none.told(-1), Check.OUTSIDE);
        Check.same("none: told 0", none.told(0), 0);
        Check.same("none: told 10", none.told(10), 0);
        Check.same("none: told 11", none.told(11), Check.OUTSIDE);
    }

    private static void toldOfBlockedAndYetToCome() {
        GossipArches x = Check.made("s3;p0 9;p0 8;p0 7;c0 1 1;c0 2 9;c1 2 1;");
        Check.same("none shut", x.told(5), 0);
        x.gate(2, true);
        Check.same("the last shut", x.told(5), 4);
        x.gate(0, true);
        Check.same("two shut", x.told(5), 5);
        x.gate(0, false);
        x.gate(2, false);
        x.letIn(3);
        Check.same("two at the spring", x.told(7), 2);
        x.hour(1);
        Check.same("silt 2 of 3: not blocked", x.told(6), 0);
        Check.same("two to each of two places", x.told(7), 4);
        x.letIn(3);
        Check.same("two more at the spring", x.told(7), 6);
        x.hour(1);
        Check.same("silt 4: blocked", x.told(6), 3);
        // to 1 at hour 2, to 2 at hours 9, 10 and (by 1) 2
        Check.same("each place, each hour", x.told(7), 8);
        x.hour(1);
        Check.same("the third is blocked, too", x.told(6), 7);
        Check.same("what went in ahead of that is on its way", x.told(7), 6);
        x.hour(7);
        Check.same("one hour's are left", x.told(7), 2);
        x.hour(1);
        Check.same("none are left", x.told(7), 0);
        // exactly M
        GossipArches y = Check.made("s3;p0 9;p0 8;c0 1 1;");
        y.letIn(7);
        y.hour(1);
        Check.same("silt 3 of 3: blocked", y.told(6), 1);
        // by two ways at one hour: once
        GossipArches z = Check.made("s9;p0 9;p0 8;p0 7;c0 1 1;c1 2 1;c0 2 2;");
        z.letIn(128);
        z.hour(1);
        Check.same("on both ways", z.told(7), 2);
        z.hour(1);
        Check.same("one place, one hour", z.told(7), 1);
    }

    private static void placeIs0To2() {
        GossipArches x = Check.made("s1;p3 42;p2 41;");
        Check.same("place -1", x.place(-1, 0), Check.UNKNOWN);
        Check.same("place 0", x.place(0, 0), 3);
        Check.same("place 1", x.place(1, 1), 41);
        Check.same("place 2", x.place(2, 0), Check.UNKNOWN);
        Check.same("unknown ahead of outside", x.place(2, 3), Check.UNKNOWN);
        Check.same("what -1", x.place(1, -1), Check.OUTSIDE);
        Check.same("what 2", x.place(1, 2), 0);
        Check.same("what 3", x.place(1, 3), Check.OUTSIDE);
        x.letIn(255);
        x.hour(1);
        Check.same("all heard", x.place(0, 2), 255);
    }

    private static void channelIs0To5() {
        GossipArches x = Check.made("s1;p0 3;p0 2;p0 1;c0 2 7;c1 2 8;");
        Check.same("channel -1", x.channel(-1, 0), Check.UNKNOWN);
        Check.same("channel 0", x.channel(0, 0), 0);
        Check.same("channel 1", x.channel(1, 0), 1);
        Check.same("channel 2", x.channel(2, 0), Check.UNKNOWN);
        Check.same("unknown ahead of outside", x.channel(2, 6), Check.UNKNOWN);
        Check.same("what -1", x.channel(1, -1), Check.OUTSIDE);
        Check.same("what 5: no crack", x.channel(1, 5), Check.NONE);
        Check.same("what 6", x.channel(1, 6), Check.OUTSIDE);
        x.crack(1, 0);
        x.crack(0, 2);
        Check.same("a crack to the first place", x.channel(1, 5), 0);
        Check.same("a crack to the last place", x.channel(0, 5), 2);
        Check.same("open", x.channel(1, 4), 0);
        x.gate(1, true);
        Check.same("shut", x.channel(1, 4), 1);
        Check.same("the other is open", x.channel(0, 4), 0);
        Check.same("no silt", x.channel(0, 3), 0);
        x.letIn(255);
        x.hour(1);
        Check.same("silt above M", x.channel(0, 3), 8);
    }

    private static void firstOfSayings0To7() {
        GossipArches x = Check.made("s9;p0 3;p0 2;c0 1 1;");
        Check.same("of -1", x.first(0, -1), Check.UNKNOWN);
        Check.same("of 0", x.first(0, 0), Check.NONE);
        Check.same("of 7", x.first(1, 7), Check.NONE);
        Check.same("of 8", x.first(1, 8), Check.UNKNOWN);
        Check.same("at -1", x.first(-1, 7), Check.UNKNOWN);
        Check.same("at 2", x.first(2, 0), Check.UNKNOWN);
        x.letIn(129);
        x.hour(1);
        Check.same("at hour 0", x.first(0, 0), 0);
        Check.same("7 at hour 0", x.first(0, 7), 0);
        Check.same("6 not", x.first(0, 6), Check.NONE);
        Check.same("not yet at 1", x.first(1, 7), Check.NONE);
        x.letIn(129);
        x.hour(1);
        Check.same("the first stays", x.first(0, 7), 0);
        Check.same("at 1", x.first(1, 7), 1);
        x.hour(1);
        Check.same("the first stays at 1", x.first(1, 7), 1);
    }
}
