import java.util.ArrayList;
import java.util.List;

/**
 * All that can be seen of an object: first as it is, then what comes of it (hours by draws, everything undone, the
 * images, the text read). Two objects with the same history are alike if every answer is; both are used up by it.
 */
final class Watch {
    private final GossipArches x;
    private final List<String> calls = new ArrayList<>();
    private final List<Integer> answers = new ArrayList<>();

    private Watch(GossipArches x) {
        this.x = x;
    }

    static void alike(String what, GossipArches touched, GossipArches left) {
        alike(what, touched, left, true);
    }

    /** For a works() with a fault: what fault() answers is then another thing. */
    static void alikeButFault(String what, GossipArches touched, GossipArches left) {
        alike(what, touched, left, false);
    }

    private static void alike(String what, GossipArches touched, GossipArches left, boolean withFault) {
        Watch one = new Watch(touched);
        Watch other = new Watch(left);
        one.look(withFault);
        other.look(withFault);
        boolean same = one.answers.equals(other.answers);
        String where = "";
        for (int i = 0; !same && where.isEmpty(); i++) {
            if (i >= one.answers.size() || i >= other.answers.size()) {
                where = " (other counts)";
            } else if (!one.answers.get(i).equals(other.answers.get(i))) {
                where = " (" + one.calls.get(i) + ": " + one.answers.get(i) + ", was " + other.answers.get(i) + ")";
            }
        }
        Check.holds(what + " changes nothing" + where, same);
    }

    private int note(String call, int answer) {
        calls.add(call);
        answers.add(answer);
        return answer;
    }

    private void look(boolean withFault) {
        asItIs(withFault);
        whatComes();
        whatIsUndone();
        whatWasKept();
        note("works", x.works());
        note("fault", x.fault());
        note("M told", x.told(0));
        note("places told", x.told(1));
    }

    private void asItIs(boolean withFault) {
        if (withFault) {
            note("fault", x.fault());
        }
        for (int what = 0; what <= 10; what++) {
            note("told " + what, x.told(what));
        }
        for (int p = 0; p < x.told(1); p++) {
            for (int what = 0; what <= 2; what++) {
                note("place " + p + " " + what, x.place(p, what));
            }
            for (int t = 0; t < 8; t++) {
                note("first " + p + " " + t, x.first(p, t));
            }
            note("cracked " + p, x.cracked(p));
        }
        for (int c = 0; c < x.told(2); c++) {
            for (int what = 0; what <= 5; what++) {
                note("channel " + c + " " + what, x.channel(c, what));
            }
        }
        note("judge", x.judge());
    }

    private void whatComes() {
        int hours = x.told(4);
        for (int i = 0; i < 2; i++) {
            note("drift", hours > 9000 ? x.empty() : x.drift(5));
            for (int p = 0; p < x.told(1); p++) {
                note("heard then at " + p, x.place(p, 2));
            }
        }
        note("seed then", x.seed(0));
    }

    private void whatIsUndone() {
        for (int i = 0; i < 21; i++) {
            note("undo", x.undo());
            for (int what = 4; what <= 7; what++) {
                note("told after undo " + what, x.told(what));
            }
            note("heard after undo", x.place(0, 2));
            note("cracked after undo", x.channel(0, 5));
        }
    }

    private void whatWasKept() {
        for (int i = 0; i < 2; i++) {
            note("goBack " + i, x.goBack(i));
            for (int what = 4; what <= 7; what++) {
                note("told of image " + what, x.told(what));
            }
            note("seed of image", x.seed(0));
        }
    }
}
