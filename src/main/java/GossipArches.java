import java.util.Arrays;

/**
 * An aqueduct of gossip: sayings are let in at a spring and flow through channels from place to place.
 * The words of the comments and names are those of the document (shared/DOC.md).
 */
public final class GossipArches {
    public static final int NONE = -1, UNKNOWN = -1000000001, OUTSIDE = -1000000002, NOT = -1000000003, FULL = -1000000004;

    private static final int TEXT_MOST = 240, PLACES_MOST = 8, CHANNELS_MOST = 10, SAYINGS = 8;
    private static final int ALL_SAYINGS = 255, EVEN_SAYINGS = 85;
    private static final int TANK = 1, TAP = 3;
    private static final int NO_FAULT = 0, CANNOT_STAND = 1, BAD_NUMBER = 2, TOO_MANY = 3, BAD_END = 4;
    private static final int END_OF_TEXT = -1, BLANK = 32;
    private static final int SLOTS = 10;
    private static final int SPRING = 0;
    private static final int HOURS_AT_ONCE = 60, HOURS_MOST = 9000;
    private static final int LAST_TRIED_HOUR = 60, LATEST_SECOND = 30, NEVER = 99;
    private static final long TRIED_HOURS = (1L << (LAST_TRIED_HOUR + 1)) - 1;
    private static final int HOURS_AHEAD = 99;
    private static final int NO_CRACK = CHANNELS_MOST, CASES = CHANNELS_MOST + 1;
    private static final int PAST_MOST = 20, IMAGES = 2, DRIPS_MOST = 6, ENTRIES_MOST = 15;
    private static final int BILLION = 1000000000, SEED_BITS = 2147483647;

    private final Reader reader = new Reader();
    private Plan plan = new Plan();
    private Plan spare = new Plan();
    private final Flow flow = new Flow();
    private final Flow trial = new Flow();
    private final Past past = new Past();
    private final Image[] images = new Image[IMAGES];
    private final Notes notes = new Notes();
    private final Search search = new Search();
    private final Routes routes = new Routes();
    private int seed = 0;

    public GossipArches() {
        for (int i = 0; i < images.length; i++) {
            images[i] = new Image();
        }
    }

    // ---- the works

    public int feed(int letter) {
        if (letter < 0 || letter > 255) {
            return OUTSIDE;
        }
        return reader.add(letter) ? reader.length : FULL;
    }

    public int works() {
        reader.read(spare);
        if (reader.faultKind != NO_FAULT) {
            return -10 - reader.faultKind;
        }
        Plan old = plan;
        plan = spare;
        spare = old;
        flow.begin();
        past.forget();
        notes.tearOut();
        for (int i = 0; i < images.length; i++) {
            images[i].kept = false;
        }
        return plan.places;
    }

    public int fault() {
        return reader.faultAt;
    }

    public int told(int what) {
        switch (what) {
            case 0: return plan.room;
            case 1: return plan.places;
            case 2: return plan.channels;
            case 3: return reader.length;
            case 4: return flow.hours;
            case 5: return flow.shut;
            case 6: return flow.blocked(plan);
            case 7: return flow.yetToCome();
            case 8: return notes.drips;
            case 9: return notes.entries;
            case 10: return past.count;
            default: return OUTSIDE;
        }
    }

    public int place(int p, int what) {
        if (!plan.hasPlace(p)) {
            return UNKNOWN;
        }
        switch (what) {
            case 0: return plan.kind[p];
            case 1: return plan.level[p];
            case 2: return flow.heard[p];
            default: return OUTSIDE;
        }
    }

    public int channel(int c, int what) {
        if (!plan.hasChannel(c)) {
            return UNKNOWN;
        }
        switch (what) {
            case 0: return plan.from[c];
            case 1: return plan.to[c];
            case 2: return plan.span[c];
            case 3: return flow.silt[c];
            case 4: return has(flow.shut, c) ? 1 : 0;
            case 5: return flow.crack[c];
            default: return OUTSIDE;
        }
    }

    public int first(int p, int t) {
        if (!plan.hasPlace(p) || !isSaying(t)) {
            return UNKNOWN;
        }
        return flow.firstAt[p * SAYINGS + t];
    }

    // ---- what is done

    public int letIn(int set) {
        if (set < 1 || set > ALL_SAYINGS) {
            return OUTSIDE;
        }
        if (plan.places == 0) {
            return NOT;
        }
        past.push(flow);
        return flow.comeToSpring(set);
    }

    public int hour(int n) {
        int refusal = refusalOfHours(n);
        if (refusal != 0) {
            return refusal;
        }
        past.push(flow);
        for (int i = 0; i < n; i++) {
            flow.passHour(plan);
        }
        return flow.hours;
    }

    public int gate(int c, boolean is) {
        if (!plan.hasChannel(c)) {
            return UNKNOWN;
        }
        past.push(flow);
        int was = has(flow.shut, c) ? 1 : 0;
        flow.shut = is ? flow.shut | 1 << c : flow.shut & ~(1 << c);
        return was;
    }

    public int clear(int c) {
        if (!plan.hasChannel(c)) {
            return UNKNOWN;
        }
        past.push(flow);
        int was = flow.silt[c];
        flow.silt[c] = 0;
        return was;
    }

    public int crack(int c, int p) {
        if (!plan.hasChannel(c) || (p != NONE && !plan.hasPlace(p))) {
            return UNKNOWN;
        }
        past.push(flow);
        int was = flow.crack[c];
        flow.crack[c] = p;
        return was;
    }

    public int empty() {
        past.push(flow);
        int was = flow.yetToCome();
        flow.drain();
        return was;
    }

    public int drift(int n) {
        int refusal = refusalOfHours(n);
        if (refusal != 0) {
            return refusal;
        }
        past.push(flow);
        for (int i = 0; i < n; i++) {
            if (drawThird() == 0) {
                flow.comeToSpring(1 << drawSaying());
            }
            flow.passHour(plan);
        }
        return flow.hours;
    }

    public int undo() {
        return past.pop(flow) ? past.count : NOT;
    }

    // ---- tried

    public int hears(int set, int p) {
        int refusal = refusalOfTry(set, p);
        if (refusal != 0) {
            return refusal;
        }
        tryOut(set);
        return trial.heard[p];
    }

    public int soonest(int set, int p) {
        int refusal = refusalOfTry(set, p);
        if (refusal != 0) {
            return refusal;
        }
        tryOut(set);
        return trial.soonestAt(p);
    }

    public int gates(int p, int t, int others) {
        // a set with the sign bit or a bit behind the last place has bits of places that there are not
        if (!plan.hasPlace(p) || !isSaying(t) || others >>> plan.places != 0) {
            return UNKNOWN;
        }
        return search.fewestGates(plan, flow, p, t, others);
    }

    public int cut(int p, int t, int what) {
        if (!plan.hasPlace(p) || !isSaying(t)) {
            return UNKNOWN;
        }
        if (what < 0 || what > 1) {
            return OUTSIDE;
        }
        int set = search.fewestGates(plan, flow, NONE, t, 1 << p);
        return set == NONE || what == 1 ? set : Integer.bitCount(set);
    }

    public int meet(int t, int u, int d) {
        if (!isSaying(t) || !isSaying(u) || t == u) {
            return UNKNOWN;
        }
        if (d < 0 || d > LATEST_SECOND) {
            return OUTSIDE;
        }
        return search.meetingHour(plan, flow, t, u, d);
    }

    public int longest(int p) {
        if (!plan.hasPlace(p)) {
            return UNKNOWN;
        }
        routes.follow(plan, flow.shut);
        return routes.hours[p];
    }

    public int ways(int p) {
        if (!plan.hasPlace(p)) {
            return UNKNOWN;
        }
        routes.follow(plan, flow.shut);
        return routes.count[p];
    }

    public int firstBlocked() {
        if (plan.places == 0) {
            return NONE;
        }
        trial.copyFrom(flow);
        int before = trial.blocked(plan);
        for (int i = 0; i < HOURS_AHEAD; i++) {
            trial.comeToSpring(1);
            trial.passHour(plan);
            int fresh = trial.blocked(plan) & ~before;
            if (fresh != 0) {
                return Integer.numberOfTrailingZeros(fresh);
            }
        }
        return NONE;
    }

    public int share(int p) {
        if (!plan.hasPlace(p)) {
            return UNKNOWN;
        }
        int all = 0;
        for (int q = 0; q < plan.places; q++) {
            all += Integer.bitCount(flow.heard[q]);
        }
        return all == 0 ? 0 : 1000 * Integer.bitCount(flow.heard[p]) / all;
    }

    public int frost(int n, int q) {
        if (n < 0 || n > HOURS_AT_ONCE || q < 0 || q > 100) {
            return OUTSIDE;
        }
        long odds = BILLION;
        for (int i = 0; i < n; i++) {
            odds = odds * (100 - q) / 100;
        }
        return (int) odds;
    }

    // ---- drips

    public int drip(int p, int t, int hour) {
        if (!plan.hasPlace(p) || !isSaying(t)) {
            return UNKNOWN;
        }
        if ((hour < 0 || hour > LAST_TRIED_HOUR) && hour != NEVER) {
            return OUTSIDE;
        }
        return notes.addDrip(p, t, hour) ? notes.drips : FULL;
    }

    public int cracked(int to) {
        if (!plan.hasPlace(to)) {
            return UNKNOWN;
        }
        return search.fittingCracks(plan, flow, notes, to);
    }

    public int listen(int to) {
        if (!plan.hasPlace(to)) {
            return UNKNOWN;
        }
        int cases = search.fittingCracks(plan, flow, notes, to);
        return search.bestListener(plan, flow, cases, to);
    }

    public int write(int p, int set) {
        if (!plan.hasPlace(p)) {
            return UNKNOWN;
        }
        if (set < 0 || set > ALL_SAYINGS) {
            return OUTSIDE;
        }
        return notes.addEntry(p, set) ? notes.entries : FULL;
    }

    public int tear() {
        int had = notes.drips + notes.entries;
        notes.tearOut();
        return had;
    }

    public int judge() {
        return notes.firstWrong(flow);
    }

    // ---- draws, images

    public int seed(int v) {
        if (v < 0) {
            return OUTSIDE;
        }
        int was = seed;
        seed = v;
        return was;
    }

    public int keep(int i) {
        if (i < 0 || i >= images.length) {
            return UNKNOWN;
        }
        images[i].flow.copyFrom(flow);
        images[i].seed = seed;
        images[i].kept = true;
        past.forget();
        return 1;
    }

    public int goBack(int i) {
        if (i < 0 || i >= images.length) {
            return UNKNOWN;
        }
        if (!images[i].kept) {
            return NOT;
        }
        flow.copyFrom(images[i].flow);
        seed = images[i].seed;
        past.forget();
        return 1;
    }

    // ---- what several calls share

    private static boolean isSaying(int t) {
        return t >= 0 && t < SAYINGS;
    }

    private static boolean has(int set, int k) {
        return (set >> k & 1) == 1;
    }

    /** Why n hours may not pass now; 0 if they may. */
    private int refusalOfHours(int n) {
        if (n < 1 || n > HOURS_AT_ONCE) {
            return OUTSIDE;
        }
        if (plan.places == 0) {
            return NOT;
        }
        return flow.hours > HOURS_MOST ? FULL : 0;
    }

    /** Why a set may not be tried for a place; 0 if it may. */
    private int refusalOfTry(int set, int p) {
        if (!plan.hasPlace(p)) {
            return UNKNOWN;
        }
        return set < 0 || set > ALL_SAYINGS ? OUTSIDE : 0;
    }

    private void tryOut(int set) {
        trial.copyFrom(flow);
        trial.drain();
        trial.hours = 0;
        trial.comeToSpring(set);
        for (int h = 0; h <= LAST_TRIED_HOUR; h++) {
            trial.passHour(plan);
        }
    }

    private int drawThird() {
        stepSeed();
        return seed / 65536 % 3;
    }

    private int drawSaying() {
        stepSeed();
        return seed / 65536 % SAYINGS;
    }

    private void stepSeed() {
        // the wrap-around of int loses only bits that 2 to the 31 leaves out as well
        seed = seed * 1103515245 + 12345 & SEED_BITS;
    }

    /** The works as the text told them; nothing done later changes them. */
    private static final class Plan {
        /** M: a channel with that much silt is blocked; 0 while no 's' was told. */
        int room = 0;
        int places = 0;
        int channels = 0;
        final int[] kind = new int[PLACES_MOST];
        final int[] level = new int[PLACES_MOST];
        final int[] from = new int[CHANNELS_MOST];
        final int[] to = new int[CHANNELS_MOST];
        final int[] span = new int[CHANNELS_MOST];
        /** All channels, those from higher places ahead: what leads to a place stands ahead of what leads from it. */
        final int[] falling = new int[CHANNELS_MOST];

        void wipe() {
            room = 0;
            places = 0;
            channels = 0;
        }

        boolean hasPlace(int p) {
            return p >= 0 && p < places;
        }

        boolean hasChannel(int c) {
            return c >= 0 && c < channels;
        }

        boolean joins(int a, int b) {
            for (int c = 0; c < channels; c++) {
                if (from[c] == a && to[c] == b) {
                    return true;
                }
            }
            return false;
        }

        boolean mayJoin(int a, int b) {
            return hasPlace(a) && hasPlace(b) && a != b && level[b] < level[a] && !joins(a, b);
        }

        void addPlace(int k, int l) {
            if (places >= PLACES_MOST) {
                return;
            }
            kind[places] = k;
            level[places] = l;
            places++;
        }

        void addChannel(int a, int b, int h) {
            if (channels >= CHANNELS_MOST || !mayJoin(a, b)) {
                return;
            }
            int i = channels;
            for (; i > 0 && level[from[falling[i - 1]]] < level[a]; i--) {
                falling[i] = falling[i - 1];
            }
            falling[i] = channels;
            from[channels] = a;
            to[channels] = b;
            span[channels] = h;
            channels++;
        }

        /** What of a set at place p goes on from there. */
        int goingOn(int p, int set) {
            if (!hasPlace(p) || kind[p] == TAP) {
                return 0;
            }
            return kind[p] == TANK ? set & EVEN_SAYINGS : set;
        }
    }

    /** The text and its reading, up to the first fault. */
    private static final class Reader {
        final int[] letters = new int[TEXT_MOST];
        int length = 0;
        int faultKind = NO_FAULT;
        int faultAt = NONE;
        private int at = 0;
        private int numberAt = 0;

        boolean add(int letter) {
            if (length >= TEXT_MOST) {
                return false;
            }
            letters[length] = letter;
            length++;
            return true;
        }

        /** The text becomes a plan, or has a fault; it is empty then. */
        void read(Plan into) {
            into.wipe();
            at = 0;
            faultKind = NO_FAULT;
            faultAt = NONE;
            skipBlanks();
            for (int n = 0; n < TEXT_MOST && at < length && faultKind == NO_FAULT; n++) {
                readClause(into);
                skipBlanks();
            }
            length = 0;
        }

        private void readClause(Plan into) {
            int word = current();
            boolean isWord = word == 's' || word == 'p' || word == 'c';
            if (!isWord || (into.room == 0 && word != 's')) {
                blame(CANNOT_STAND, at);
                return;
            }
            if (!hasRoomFor(word, into)) {
                blame(TOO_MANY, at);
                return;
            }
            at++;
            if (word == 's') {
                readRoom(into);
            } else if (word == 'p') {
                readPlace(into);
            } else {
                readChannel(into);
            }
        }

        private boolean hasRoomFor(int word, Plan into) {
            if (word == 's') {
                return into.room == 0;
            }
            return word == 'p' ? into.places < PLACES_MOST : into.channels < CHANNELS_MOST;
        }

        private void readRoom(Plan into) {
            int room = number(1, 99);
            if (closes()) {
                into.room = room;
            }
        }

        private void readPlace(Plan into) {
            int kind = number(0, TAP);
            int level = number(0, 99);
            if (closes()) {
                into.addPlace(kind, level);
            }
        }

        private void readChannel(Plan into) {
            int a = number(0, into.places - 1);
            int b = number(0, into.places - 1);
            if (faultKind == NO_FAULT && !into.mayJoin(a, b)) {
                blame(BAD_END, numberAt);
            }
            int h = number(1, 9);
            if (closes()) {
                into.addChannel(a, b, h);
            }
        }

        /** The number that is due next; 0 behind a fault. */
        private int number(int least, int most) {
            if (faultKind != NO_FAULT) {
                return 0;
            }
            skipBlanks();
            numberAt = at;
            int value = 0;
            for (; at < length && isFigure(current()); at++) {
                // further figures are a fault anyway; leaving them out keeps the value small
                if (at - numberAt < 3) {
                    value = value * 10 + current() - '0';
                }
            }
            int figures = at - numberAt;
            if (figures == 0) {
                blame(CANNOT_STAND, at);
            } else if (figures > 3 || value < least || value > most) {
                blame(BAD_NUMBER, numberAt);
            }
            return value;
        }

        /** Whether the clause is without fault up to its ';', which is taken. */
        private boolean closes() {
            if (faultKind != NO_FAULT) {
                return false;
            }
            skipBlanks();
            if (current() != ';') {
                blame(CANNOT_STAND, at);
                return false;
            }
            at++;
            return true;
        }

        private void skipBlanks() {
            while (at < length && current() == BLANK) {
                at++;
            }
        }

        private int current() {
            return at >= 0 && at < length && at < TEXT_MOST ? letters[at] : END_OF_TEXT;
        }

        private static boolean isFigure(int letter) {
            return letter >= '0' && letter <= '9';
        }

        private void blame(int kind, int letter) {
            faultKind = kind;
            faultAt = letter;
        }
    }

    /** All of section 2: what is on its way, silt, gates, cracks, what was heard, hours. */
    private static final class Flow {
        int hours = 0;
        int shut = 0;
        final int[] silt = new int[CHANNELS_MOST];
        final int[] crack = new int[CHANNELS_MOST];
        final int[] heard = new int[PLACES_MOST];
        final int[] firstAt = new int[PLACES_MOST * SAYINGS];
        /** What comes to a place, SLOTS to each: the slot of an hour is the hour's last figure. */
        private final int[] due = new int[PLACES_MOST * SLOTS];

        Flow() {
            Arrays.fill(crack, NONE);
            Arrays.fill(firstAt, NONE);
        }

        void begin() {
            hours = 0;
            shut = 0;
            Arrays.fill(crack, NONE);
            drain();
        }

        void drain() {
            Arrays.fill(silt, 0);
            Arrays.fill(heard, 0);
            Arrays.fill(firstAt, NONE);
            Arrays.fill(due, 0);
        }

        void copyFrom(Flow other) {
            hours = other.hours;
            shut = other.shut;
            System.arraycopy(other.silt, 0, silt, 0, silt.length);
            System.arraycopy(other.crack, 0, crack, 0, crack.length);
            System.arraycopy(other.heard, 0, heard, 0, heard.length);
            System.arraycopy(other.firstAt, 0, firstAt, 0, firstAt.length);
            System.arraycopy(other.due, 0, due, 0, due.length);
        }

        int blocked(Plan plan) {
            int set = 0;
            for (int c = 0; c < plan.channels; c++) {
                if (silt[c] >= plan.room) {
                    set |= 1 << c;
                }
            }
            return set;
        }

        int yetToCome() {
            int sum = 0;
            for (int i = 0; i < due.length; i++) {
                sum += Integer.bitCount(due[i]);
            }
            return sum;
        }

        /** The hour at which place p heard anything first; NONE. */
        int soonestAt(int p) {
            int soonest = NONE;
            for (int t = 0; t < SAYINGS; t++) {
                int at = firstAt[p * SAYINGS + t];
                if (at != NONE && (soonest == NONE || at < soonest)) {
                    soonest = at;
                }
            }
            return soonest;
        }

        /** A set is let in: what comes to the spring this hour. */
        int comeToSpring(int set) {
            int slot = SPRING * SLOTS + hours % SLOTS;
            due[slot] |= set;
            return due[slot];
        }

        void passHour(Plan plan) {
            for (int p = 0; p < plan.places; p++) {
                int slot = p * SLOTS + hours % SLOTS;
                int set = due[slot];
                due[slot] = 0;
                hearAt(p, set);
                sendOn(plan, p, plan.goingOn(p, set));
            }
            hours++;
        }

        private void sendOn(Plan plan, int p, int set) {
            if (set == 0) {
                return;
            }
            for (int c = 0; c < plan.channels; c++) {
                if (plan.from[c] == p && !has(shut, c) && silt[c] < plan.room) {
                    silt[c] += Integer.bitCount(set);
                    due[plan.to[c] * SLOTS + (hours + plan.span[c]) % SLOTS] |= set;
                    hearAt(crack[c], set);
                }
            }
        }

        /** A set is heard at place p this hour; p is NONE where a channel has no crack. */
        private void hearAt(int p, int set) {
            if (p < 0 || p >= PLACES_MOST) {
                return;
            }
            int fresh = set & ~heard[p];
            heard[p] |= set;
            for (int t = 0; t < SAYINGS; t++) {
                if (has(fresh, t)) {
                    firstAt[p * SAYINGS + t] = hours;
                }
            }
        }
    }

    /** What can be undone: the flow ahead of each of the latest changes, in a ring. */
    private static final class Past {
        int count = 0;
        private int next = 0;
        private final Flow[] ring = new Flow[PAST_MOST];

        Past() {
            for (int i = 0; i < ring.length; i++) {
                ring[i] = new Flow();
            }
        }

        void forget() {
            count = 0;
        }

        void push(Flow flow) {
            ring[next].copyFrom(flow);
            next = (next + 1) % PAST_MOST;
            count = Math.min(count + 1, PAST_MOST);
        }

        boolean pop(Flow flow) {
            if (count == 0) {
                return false;
            }
            next = (next + PAST_MOST - 1) % PAST_MOST;
            count--;
            flow.copyFrom(ring[next]);
            return true;
        }
    }

    private static final class Image {
        boolean kept = false;
        int seed = 0;
        final Flow flow = new Flow();
    }

    /** The drips and the book. */
    private static final class Notes {
        int drips = 0;
        int entries = 0;
        final int[] dripPlace = new int[DRIPS_MOST];
        final int[] dripSaying = new int[DRIPS_MOST];
        final int[] dripHour = new int[DRIPS_MOST];
        private final int[] entryPlace = new int[ENTRIES_MOST];
        private final int[] entrySet = new int[ENTRIES_MOST];

        void tearOut() {
            drips = 0;
            entries = 0;
        }

        boolean addDrip(int p, int t, int hour) {
            if (drips >= DRIPS_MOST) {
                return false;
            }
            dripPlace[drips] = p;
            dripSaying[drips] = t;
            dripHour[drips] = hour;
            drips++;
            return true;
        }

        boolean addEntry(int p, int set) {
            if (entries >= ENTRIES_MOST) {
                return false;
            }
            entryPlace[entries] = p;
            entrySet[entries] = set;
            entries++;
            return true;
        }

        int firstWrong(Flow flow) {
            for (int i = 0; i < entries; i++) {
                if (flow.heard[entryPlace[i]] != entrySet[i]) {
                    return i;
                }
            }
            return NONE;
        }
    }

    /**
     * One saying, let in at hour 0, where nothing is blocked. A row of hours is a long, bit h for hour h:
     * 0 to 60 fit in, and a channel moves the whole row at once.
     */
    private static final class Spread {
        /** The hours at which the saying comes to a place. */
        final long[] comes = new long[PLACES_MOST];
        /** The hours at which it is heard there by cracks. */
        private final long[] drips = new long[PLACES_MOST];

        void run(Plan plan, int saying, int shut, int[] crack) {
            Arrays.fill(comes, 0L);
            Arrays.fill(drips, 0L);
            comes[SPRING] = plan.places == 0 ? 0L : 1L;
            for (int i = 0; i < plan.channels; i++) {
                int c = plan.falling[i];
                int a = plan.from[c];
                if (comes[a] != 0 && !has(shut, c) && plan.goingOn(a, 1 << saying) != 0) {
                    comes[plan.to[c]] |= comes[a] << plan.span[c] & TRIED_HOURS;
                    if (crack[c] >= 0 && crack[c] < PLACES_MOST) {
                        drips[crack[c]] |= comes[a];
                    }
                }
            }
        }

        /** The first hour at which the saying is heard at place p, or NEVER. */
        int firstHour(int p) {
            long heard = comes[p] | drips[p];
            return heard == 0 ? NEVER : Long.numberOfTrailingZeros(heard);
        }

        int heardAtPlaces() {
            int set = 0;
            for (int p = 0; p < PLACES_MOST; p++) {
                if ((comes[p] | drips[p]) != 0) {
                    set |= 1 << p;
                }
            }
            return set;
        }
    }

    /** What is tried with single sayings, while nothing is blocked. */
    private static final class Search {
        private final Spread one = new Spread();
        private final Spread other = new Spread();
        private final int[] lone = new int[CHANNELS_MOST];
        /** For each case (a crack in a channel, or none) the first hour at each place. */
        private final int[] hourOf = new int[CASES * PLACES_MOST];

        /** The fewest gates so that the hearer (NONE: nobody need) hears a saying and no silent place does; NONE. */
        int fewestGates(Plan plan, Flow flow, int hearer, int saying, int silent) {
            int best = NONE;
            int fewest = CHANNELS_MOST + 1;
            int mustHear = hearer == NONE ? 0 : 1 << hearer;
            for (int set = 0; set < 1 << plan.channels; set++) {
                if (Integer.bitCount(set) < fewest && (set & flow.shut) == 0) {
                    one.run(plan, saying, set | flow.shut, flow.crack);
                    int heard = one.heardAtPlaces();
                    if ((heard & silent) == 0 && (heard & mustHear) == mustHear) {
                        best = set;
                        fewest = Integer.bitCount(set);
                    }
                }
            }
            return best;
        }

        int meetingHour(Plan plan, Flow flow, int t, int u, int d) {
            one.run(plan, t, flow.shut, flow.crack);
            other.run(plan, u, flow.shut, flow.crack);
            long both = 0;
            for (int p = 0; p < plan.places; p++) {
                both |= one.comes[p] & other.comes[p] << d;
            }
            return both == 0 ? NONE : Long.numberOfTrailingZeros(both);
        }

        int fittingCracks(Plan plan, Flow flow, Notes notes, int to) {
            int set = 0;
            for (int k = 0; k < CASES; k++) {
                if ((k < plan.channels || k == NO_CRACK) && fits(plan, flow, notes, k, to)) {
                    set |= 1 << k;
                }
            }
            return set;
        }

        private boolean fits(Plan plan, Flow flow, Notes notes, int k, int to) {
            crackAlone(k, to);
            for (int i = 0; i < notes.drips; i++) {
                one.run(plan, notes.dripSaying[i], flow.shut, lone);
                if (one.firstHour(notes.dripPlace[i]) != notes.dripHour[i]) {
                    return false;
                }
            }
            return true;
        }

        /** The only crack is in channel k; there is none, if k is NO_CRACK. */
        private void crackAlone(int k, int to) {
            Arrays.fill(lone, NONE);
            if (k >= 0 && k < lone.length) {
                lone[k] = to;
            }
        }

        int bestListener(Plan plan, Flow flow, int cases, int to) {
            for (int k = 0; k < CASES; k++) {
                if (has(cases, k)) {
                    noteHours(plan, flow, k, to);
                }
            }
            int best = NONE;
            int least = Integer.bitCount(cases);
            for (int p = 0; p < plan.places; p++) {
                int part = greatestPart(cases, p);
                if (part < least) {
                    best = p;
                    least = part;
                }
            }
            return best;
        }

        private void noteHours(Plan plan, Flow flow, int k, int to) {
            crackAlone(k, to);
            one.run(plan, 0, flow.shut, lone);
            for (int p = 0; p < plan.places; p++) {
                hourOf[k * PLACES_MOST + p] = one.firstHour(p);
            }
        }

        /** How many of the cases, at most, have the same hour at place p. */
        private int greatestPart(int cases, int p) {
            int greatest = 0;
            for (int k = 0; k < CASES; k++) {
                int alike = 0;
                for (int j = 0; j < CASES; j++) {
                    if (has(cases, k) && has(cases, j) && hourOf[k * PLACES_MOST + p] == hourOf[j * PLACES_MOST + p]) {
                        alike++;
                    }
                }
                greatest = Math.max(greatest, alike);
            }
            return greatest;
        }
    }

    /** The ways from the spring through open channels, whatever the kinds of the places on them. */
    private static final class Routes {
        /** The hours of the longest way to a place; NONE. */
        final int[] hours = new int[PLACES_MOST];
        final int[] count = new int[PLACES_MOST];

        void follow(Plan plan, int shut) {
            Arrays.fill(hours, NONE);
            Arrays.fill(count, 0);
            hours[SPRING] = 0;
            count[SPRING] = 1;
            for (int i = 0; i < plan.channels; i++) {
                int c = plan.falling[i];
                int a = plan.from[c];
                int b = plan.to[c];
                if (count[a] > 0 && !has(shut, c)) {
                    hours[b] = Math.max(hours[b], hours[a] + plan.span[c]);
                    count[b] += count[a];
                }
            }
        }
    }
}
