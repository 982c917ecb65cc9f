import java.util.ArrayList;
import java.util.HashMap;
import java.util.List;
import java.util.Map;
import java.util.TreeMap;

/**
 * The same face once more, written apart from the class and without regard to speed:
 * everything that is tried is played hour by hour.
 */
final class SlowArches {
    private static final int NONE = -1, UNKNOWN = -1000000001, OUTSIDE = -1000000002, NOT = -1000000003, FULL = -1000000004;

    /** Section 2. */
    private static final class State {
        int hour = 0;
        final boolean[] shut = new boolean[10];
        final int[] crack = new int[10];
        final int[] silt = new int[10];
        /** place * 100 + saying: the hour. */
        final TreeMap<Integer, Integer> heard = new TreeMap<>();
        /** hour * 100 + place: a set. */
        final TreeMap<Integer, Integer> way = new TreeMap<>();

        State() {
            java.util.Arrays.fill(crack, NONE);
        }

        State(State o) {
            hour = o.hour;
            System.arraycopy(o.shut, 0, shut, 0, 10);
            System.arraycopy(o.crack, 0, crack, 0, 10);
            System.arraycopy(o.silt, 0, silt, 0, 10);
            heard.putAll(o.heard);
            way.putAll(o.way);
        }

        void drain() {
            java.util.Arrays.fill(silt, 0);
            heard.clear();
            way.clear();
        }

        int set(int p) {
            int set = 0;
            for (int t = 0; t < 8; t++) {
                set += heard.containsKey(p * 100 + t) ? 1 << t : 0;
            }
            return set;
        }

        int onItsWay() {
            return way.values().stream().mapToInt(Integer::bitCount).sum();
        }

        void hear(int p, int set) {
            for (int t = 0; t < 8; t++) {
                if ((set & 1 << t) != 0) {
                    heard.putIfAbsent(p * 100 + t, hour);
                }
            }
        }
    }

    private final StringBuilder text = new StringBuilder();
    private int m = 0;
    private List<int[]> places = new ArrayList<>();
    private List<int[]> channels = new ArrayList<>();
    private int faultAt = NONE;
    private State now = new State();
    private final List<State> past = new ArrayList<>();
    private final State[] images = new State[2];
    private final long[] imageSeeds = new long[2];
    private final List<int[]> drips = new ArrayList<>();
    private final List<int[]> book = new ArrayList<>();
    private long seed = 0;

    int feed(int letter) {
        if (letter < 0 || letter > 255) return OUTSIDE;
        if (text.length() == 240) return FULL;
        text.append((char) letter);
        return text.length();
    }

    int works() {
        String all = text.toString();
        text.setLength(0);
        int newM = 0;
        List<int[]> newPlaces = new ArrayList<>();
        List<int[]> newChannels = new ArrayList<>();
        // tokens: where, what (a letter, 'n' for a number, 0 for the end), value, figures
        List<int[]> tokens = new ArrayList<>();
        for (int i = 0; i < all.length();) {
            int j = i;
            while (j < all.length() && all.charAt(j) >= '0' && all.charAt(j) <= '9') j++;
            if (j > i) {
                tokens.add(new int[] {i, 'n', j - i > 3 ? 100000 : Integer.parseInt(all.substring(i, j))});
                i = j;
            } else {
                char ch = all.charAt(i);
                // an 'n' in the text is no word, and must not pass for a number
                if (ch != ' ') tokens.add(new int[] {i, ch == 'n' ? 'x' : ch, 0});
                i++;
            }
        }
        int[] end = {all.length(), 0, 0};
        for (int k = 0; k < tokens.size();) {
            int[] word = tokens.get(k);
            String form = word[1] == 's' ? "n;" : word[1] == 'p' ? "nn;" : word[1] == 'c' ? "nnn;" : null;
            if (form == null || (k == 0 && word[1] != 's')) return fault(1, word);
            if (word[1] == 's' && k > 0) return fault(3, word);
            if (word[1] == 'p' && newPlaces.size() == 8) return fault(3, word);
            if (word[1] == 'c' && newChannels.size() == 10) return fault(3, word);
            k++;
            int[] v = new int[4];
            for (int f = 0; f < form.length(); f++, k++) {
                int[] token = k < tokens.size() ? tokens.get(k) : end;
                if (token[1] != form.charAt(f)) return fault(1, token);
                if (token[1] == ';') continue;
                v[f] = token[2];
                int low = word[1] == 's' || (word[1] == 'c' && f == 2) ? 1 : 0;
                int high = word[1] == 's' ? 99 : word[1] == 'p' ? (f == 0 ? 3 : 99) : f == 2 ? 9 : newPlaces.size() - 1;
                if (v[f] < low || v[f] > high) return fault(2, token);
                if (word[1] == 'c' && f == 1) {
                    boolean twice = false;
                    for (int[] c : newChannels) twice |= c[0] == v[0] && c[1] == v[1];
                    if (twice || v[0] == v[1] || newPlaces.get(v[1])[1] >= newPlaces.get(v[0])[1]) return fault(4, token);
                }
            }
            if (word[1] == 's') newM = v[0];
            if (word[1] == 'p') newPlaces.add(v);
            if (word[1] == 'c') newChannels.add(v);
        }
        m = newM;
        places = newPlaces;
        channels = newChannels;
        faultAt = NONE;
        now = new State();
        past.clear();
        drips.clear();
        book.clear();
        images[0] = null;
        images[1] = null;
        return places.size();
    }

    private int fault(int number, int[] token) {
        faultAt = token[0];
        return -10 - number;
    }

    int fault() {
        return faultAt;
    }

    int told(int what) {
        int shut = 0;
        int blocked = 0;
        for (int c = 0; c < channels.size(); c++) {
            shut += now.shut[c] ? 1 << c : 0;
            blocked += now.silt[c] >= m ? 1 << c : 0;
        }
        int[] all = {m, places.size(), channels.size(), text.length(), now.hour, shut, blocked, now.onItsWay(),
            drips.size(), book.size(), past.size()};
        return what < 0 || what >= all.length ? OUTSIDE : all[what];
    }

    private boolean isPlace(int p) {
        return p >= 0 && p < places.size();
    }

    private boolean isChannel(int c) {
        return c >= 0 && c < channels.size();
    }

    private static boolean isSaying(int t) {
        return t >= 0 && t <= 7;
    }

    int place(int p, int what) {
        if (!isPlace(p)) return UNKNOWN;
        if (what < 0 || what > 2) return OUTSIDE;
        return what == 2 ? now.set(p) : places.get(p)[what];
    }

    int channel(int c, int what) {
        if (!isChannel(c)) return UNKNOWN;
        if (what < 0 || what > 5) return OUTSIDE;
        if (what < 3) return channels.get(c)[what];
        return what == 3 ? now.silt[c] : what == 4 ? (now.shut[c] ? 1 : 0) : now.crack[c];
    }

    int first(int p, int t) {
        if (!isPlace(p) || !isSaying(t)) return UNKNOWN;
        return now.heard.getOrDefault(p * 100 + t, NONE);
    }

    private void remember() {
        past.add(new State(now));
        if (past.size() > 20) past.remove(0);
    }

    private int letInto(State s, int set) {
        return s.way.merge(s.hour * 100, set, (a, b) -> a | b);
    }

    private void pass(State s, int room) {
        for (int p = 0; p < places.size(); p++) {
            Integer came = s.way.remove(s.hour * 100 + p);
            if (came == null) continue;
            s.hear(p, came);
            int kind = places.get(p)[0];
            int on = 0;
            for (int t = 0; t < 8; t++) {
                boolean goes = kind == 3 ? false : kind == 1 ? t % 2 == 0 : true;
                if (goes) on |= came & 1 << t;
            }
            if (on == 0) continue;
            for (int c = 0; c < channels.size(); c++) {
                int[] ch = channels.get(c);
                if (ch[0] != p || s.shut[c] || s.silt[c] >= room) continue;
                s.silt[c] += Integer.bitCount(on);
                final int set = on;
                s.way.merge((s.hour + ch[2]) * 100 + ch[1], set, (a, b) -> a | b);
                if (s.crack[c] != NONE) s.hear(s.crack[c], on);
            }
        }
        s.hour++;
    }

    int letIn(int set) {
        if (set < 1 || set > 255) return OUTSIDE;
        if (places.isEmpty()) return NOT;
        remember();
        return letInto(now, set);
    }

    int hour(int n) {
        if (n < 1 || n > 60) return OUTSIDE;
        if (places.isEmpty()) return NOT;
        if (now.hour > 9000) return FULL;
        remember();
        for (int i = 0; i < n; i++) pass(now, m);
        return now.hour;
    }

    int gate(int c, boolean is) {
        if (!isChannel(c)) return UNKNOWN;
        remember();
        boolean was = now.shut[c];
        now.shut[c] = is;
        return was ? 1 : 0;
    }

    int clear(int c) {
        if (!isChannel(c)) return UNKNOWN;
        remember();
        int was = now.silt[c];
        now.silt[c] = 0;
        return was;
    }

    int crack(int c, int p) {
        if (!isChannel(c) || !(p == NONE || isPlace(p))) return UNKNOWN;
        remember();
        int was = now.crack[c];
        now.crack[c] = p;
        return was;
    }

    int empty() {
        remember();
        int was = now.onItsWay();
        now.drain();
        return was;
    }

    private int draw(int n) {
        seed = (seed * 1103515245L + 12345L) % (1L << 31);
        return (int) (seed / 65536 % n);
    }

    int drift(int n) {
        if (n < 1 || n > 60) return OUTSIDE;
        if (places.isEmpty()) return NOT;
        if (now.hour > 9000) return FULL;
        remember();
        for (int i = 0; i < n; i++) {
            if (draw(3) == 0) letInto(now, 1 << draw(8));
            pass(now, m);
        }
        return now.hour;
    }

    int undo() {
        if (past.isEmpty()) return NOT;
        now = past.remove(past.size() - 1);
        return past.size();
    }

    /** Hours 0 to 60 of a set alone. */
    private State played(boolean[] shut, int[] crack, int set, int room) {
        State s = new State();
        System.arraycopy(shut, 0, s.shut, 0, 10);
        System.arraycopy(crack, 0, s.crack, 0, 10);
        if (set != 0 && !places.isEmpty()) letInto(s, set);
        for (int h = 0; h <= 60; h++) pass(s, room);
        return s;
    }

    int hears(int set, int p) {
        if (!isPlace(p)) return UNKNOWN;
        if (set < 0 || set > 255) return OUTSIDE;
        return played(now.shut, now.crack, set, m).set(p);
    }

    int soonest(int set, int p) {
        if (!isPlace(p)) return UNKNOWN;
        if (set < 0 || set > 255) return OUTSIDE;
        State s = played(now.shut, now.crack, set, m);
        int best = NONE;
        for (Map.Entry<Integer, Integer> e : s.heard.entrySet()) {
            if (e.getKey() / 100 == p && (best == NONE || e.getValue() < best)) best = e.getValue();
        }
        return best;
    }

    /** Sets with fewer gates first, of like ones the least. */
    private int leastShut(int hearer, int t, int silent) {
        int n = channels.size();
        for (int many = 0; many <= n; many++) {
            for (int set = 0; set < 1 << n; set++) {
                if (Integer.bitCount(set) != many) continue;
                boolean[] shut = now.shut.clone();
                boolean besides = true;
                for (int c = 0; c < n; c++) {
                    if ((set & 1 << c) != 0) {
                        besides &= !shut[c];
                        shut[c] = true;
                    }
                }
                if (!besides) continue;
                State s = played(shut, now.crack, 1 << t, Integer.MAX_VALUE);
                boolean fits = hearer == NONE || s.set(hearer) != 0;
                for (int p = 0; p < places.size(); p++) {
                    fits &= (silent & 1 << p) == 0 || s.set(p) == 0;
                }
                if (fits) return set;
            }
        }
        return NONE;
    }

    int gates(int p, int t, int others) {
        if (!isPlace(p) || !isSaying(t) || others < 0 || others >= 1 << places.size()) return UNKNOWN;
        return leastShut(p, t, others);
    }

    int cut(int p, int t, int what) {
        if (!isPlace(p) || !isSaying(t)) return UNKNOWN;
        if (what != 0 && what != 1) return OUTSIDE;
        int set = leastShut(NONE, t, 1 << p);
        return set == NONE ? NONE : what == 0 ? Integer.bitCount(set) : set;
    }

    int meet(int t, int u, int d) {
        if (!isSaying(t) || !isSaying(u) || t == u) return UNKNOWN;
        if (d < 0 || d > 30) return OUTSIDE;
        if (places.isEmpty()) return NONE;
        State s = new State();
        System.arraycopy(now.shut, 0, s.shut, 0, 10);
        letInto(s, 1 << t);
        for (int h = 0; h <= 60; h++) {
            if (h == d) letInto(s, 1 << u);
            for (int p = 0; p < places.size(); p++) {
                int comes = s.way.getOrDefault(h * 100 + p, 0);
                if (comes == (1 << t | 1 << u)) return h;
            }
            pass(s, Integer.MAX_VALUE);
        }
        return NONE;
    }

    /** The hours of every way from p to q. */
    private void walk(int p, int q, int hours, List<Integer> into) {
        if (p == q) into.add(hours);
        for (int c = 0; c < channels.size(); c++) {
            int[] ch = channels.get(c);
            if (ch[0] == p && !now.shut[c]) walk(ch[1], q, hours + ch[2], into);
        }
    }

    int longest(int p) {
        if (!isPlace(p)) return UNKNOWN;
        List<Integer> all = new ArrayList<>();
        walk(0, p, 0, all);
        return all.stream().mapToInt(Integer::intValue).max().orElse(NONE);
    }

    int ways(int p) {
        if (!isPlace(p)) return UNKNOWN;
        List<Integer> all = new ArrayList<>();
        walk(0, p, 0, all);
        return all.size();
    }

    int firstBlocked() {
        if (places.isEmpty()) return NONE;
        State s = new State(now);
        for (int i = 0; i < 99; i++) {
            letInto(s, 1);
            pass(s, m);
            for (int c = 0; c < channels.size(); c++) {
                if (now.silt[c] < m && s.silt[c] >= m) return c;
            }
        }
        return NONE;
    }

    int share(int p) {
        if (!isPlace(p)) return UNKNOWN;
        if (now.heard.isEmpty()) return 0;
        return 1000 * Integer.bitCount(now.set(p)) / now.heard.size();
    }

    int frost(int n, int q) {
        if (n < 0 || n > 60 || q < 0 || q > 100) return OUTSIDE;
        long odds = 1000000000;
        for (int i = 0; i < n; i++) odds = odds * (100 - q) / 100;
        return (int) odds;
    }

    int drip(int p, int t, int hour) {
        if (!isPlace(p) || !isSaying(t)) return UNKNOWN;
        if (hour < 0 || hour > 60 && hour != 99) return OUTSIDE;
        if (drips.size() == 6) return FULL;
        drips.add(new int[] {p, t, hour});
        return drips.size();
    }

    private State leaking(int c, int to, int t) {
        int[] crack = new int[10];
        java.util.Arrays.fill(crack, NONE);
        if (c < 10) crack[c] = to;
        return played(now.shut, crack, 1 << t, Integer.MAX_VALUE);
    }

    int cracked(int to) {
        if (!isPlace(to)) return UNKNOWN;
        int set = 0;
        for (int c = 0; c <= 10; c++) {
            if (c >= channels.size() && c < 10) continue;
            boolean fits = true;
            for (int[] d : drips) {
                fits &= leaking(c, to, d[1]).heard.getOrDefault(d[0] * 100 + d[1], 99) == d[2];
            }
            if (fits) set |= 1 << c;
        }
        return set;
    }

    int listen(int to) {
        if (!isPlace(to)) return UNKNOWN;
        int cases = cracked(to);
        int best = NONE;
        int least = Integer.bitCount(cases);
        for (int p = 0; p < places.size(); p++) {
            Map<Integer, Integer> parts = new HashMap<>();
            for (int c = 0; c <= 10; c++) {
                if ((cases & 1 << c) != 0) {
                    parts.merge(leaking(c, to, 0).heard.getOrDefault(p * 100, 99), 1, Integer::sum);
                }
            }
            int greatest = parts.values().stream().mapToInt(Integer::intValue).max().orElse(0);
            if (greatest < least) {
                least = greatest;
                best = p;
            }
        }
        return best;
    }

    int write(int p, int set) {
        if (!isPlace(p)) return UNKNOWN;
        if (set < 0 || set > 255) return OUTSIDE;
        if (book.size() == 15) return FULL;
        book.add(new int[] {p, set});
        return book.size();
    }

    int tear() {
        int had = drips.size() + book.size();
        drips.clear();
        book.clear();
        return had;
    }

    int judge() {
        for (int i = 0; i < book.size(); i++) {
            if (now.set(book.get(i)[0]) != book.get(i)[1]) return i;
        }
        return NONE;
    }

    int seed(int v) {
        if (v < 0) return OUTSIDE;
        int was = (int) seed;
        seed = v;
        return was;
    }

    int keep(int i) {
        if (i != 0 && i != 1) return UNKNOWN;
        images[i] = new State(now);
        imageSeeds[i] = seed;
        past.clear();
        return 1;
    }

    int goBack(int i) {
        if (i != 0 && i != 1) return UNKNOWN;
        if (images[i] == null) return NOT;
        now = new State(images[i]);
        seed = imageSeeds[i];
        past.clear();
        return 1;
    }
}
