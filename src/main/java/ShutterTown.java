import java.util.Arrays;

/** A town that speaks by shutters; each public method keeps the promise of its name in the document. */
public final class ShutterTown {
    public static final int UNKNOWN = -1, OUTSIDE = -2, STATE = -3, FULL = -4, NONE = -9;

    private static final int MOST_LETTERS = 48;
    private static final int MOST_WINDOWS = 6;
    private static final int MOST_ACTS = 14;
    private static final int MOST_FOLLOWED = 6;
    private static final int MOST_THINGS = 5;
    private static final int MOST_AFTERNOONS = 30;
    private static final int SLOTS = 2;
    private static final int STATES = 4;
    private static final int WORDS = 4;

    /** The head of a TOWN and each WINDOW behind it are told by as many letters. */
    private static final int LINE = 6;

    /** How many numbers tell all that ACTS change. */
    private static final int SNAPSHOT = 2 * MOST_WINDOWS + 1;

    private static final int DEAF = 1;
    private static final int LOOSE = 2;
    private static final int DEAD = 3;

    private static final int LEFT_LEAF = 1;
    private static final int WIND_OR_HOUR = 9;

    private static final long SEED_TIMES = 6364136223846793005L;
    private static final long SEED_MORE = 1442695040888963407L;

    private final Letters text = new Letters();
    private final Houses houses = new Houses();
    private final Shutters now = new Shutters(houses);
    private final Shutters tried = new Shutters(houses);
    private final Acts acts = new Acts();
    private final Slots slots = new Slots();
    private final Ways ways = new Ways(houses);
    private final Followed followed = new Followed();
    private final int[] hoursThere = new int[MOST_WINDOWS];
    private final int[] hoursBack = new int[MOST_WINDOWS];
    private long theSeed;

    public ShutterTown() {
    }

    // ---- the town

    public int write(int letter) {
        if (letter < 0 || letter > 255) {
            return OUTSIDE;
        }
        return text.add(letter) ? text.size() : FULL;
    }

    public int wipe() {
        int before = text.size();
        text.clear();
        return before;
    }

    public int fault() {
        return text.firstFault();
    }

    public int town() {
        if (text.firstFault() != NONE) {
            return STATE;
        }
        houses.build(text);
        now.begin(text);
        acts.clear();
        slots.clear();
        return houses.windows();
    }

    public int window(int window, int what) {
        if (!houses.has(window)) {
            return UNKNOWN;
        }
        switch (what) {
            case 0:
                return houses.place(window);
            case 1:
                return houses.side(window);
            case 2:
                return houses.floor(window);
            case 3:
                return now.state(window);
            case 4:
                return houses.kind(window);
            case 5:
                return now.word(window);
            case 6:
                return houses.sees(window);
            case 7:
                return now.due(window);
            default:
                return OUTSIDE;
        }
    }

    // ---- acts

    public int move(int window, int state) {
        if (!houses.has(window)) {
            return UNKNOWN;
        }
        if (!isState(state)) {
            return OUTSIDE;
        }
        if (!now.canShift(window, state)) {
            return STATE;
        }
        acts.remember(now);
        now.shift(window, state);
        return now.word(window);
    }

    public int wind() {
        acts.remember(now);
        return now.blow();
    }

    public int pass(int window, int from) {
        if (!houses.has(window) || !houses.has(from)) {
            return UNKNOWN;
        }
        if (!houses.areFacing(window, from) || houses.kind(window) == DEAD) {
            return STATE;
        }
        acts.remember(now);
        int word = now.word(from);
        now.takeUp(window, word);
        return word;
    }

    public int hour() {
        acts.remember(now);
        return now.strike();
    }

    public int undo() {
        if (acts.size() == 0) {
            return STATE;
        }
        acts.giveBack(now);
        return acts.size();
    }

    // ---- ways

    public int soonest(int from, int to, boolean way) {
        int refusal = refusalOfTwo(from, to);
        if (refusal != NONE) {
            return refusal;
        }
        ways.measure(from, 0);
        return way ? ways.wayTo(to) : ways.hoursTo(to);
    }

    public int knows(int from, int n) {
        if (!houses.has(from)) {
            return UNKNOWN;
        }
        if (n < 0 || n > 9) {
            return OUTSIDE;
        }
        ways.measure(from, 0);
        int knowing = 0;
        for (int to = 0; to < houses.windows(); to++) {
            if (ways.comesTo(to) && ways.hoursTo(to) <= n) {
                knowing |= 1 << to;
            }
        }
        return knowing;
    }

    public int toTell(int windows) {
        if (windows < 0 || windows >= houses.sets()) {
            return OUTSIDE;
        }
        int best = NONE;
        for (int shown = 0; shown < houses.sets(); shown++) {
            if (houses.reachedBy(shown) == windows && isFewer(shown, best)) {
                best = shown;
            }
        }
        return best;
    }

    public int cut(int from, int to) {
        int refusal = refusalOfTwo(from, to);
        if (refusal != NONE) {
            return refusal;
        }
        int ends = 1 << from | 1 << to;
        int best = NONE;
        for (int dead = 0; dead < houses.sets(); dead++) {
            if ((dead & ends) == 0 && isFewer(dead, best)) {
                ways.measure(from, dead);
                best = ways.comesTo(to) ? best : dead;
            }
        }
        return best;
    }

    public int judge(int n, long row) {
        if (n < 1 || n > MOST_THINGS || row < 0 || withoutLast(row, n) > 0) {
            return OUTSIDE;
        }
        tried.copy(now);
        for (int at = 0; at < n; at++) {
            int thing = (int) (withoutLast(row, n - 1 - at) % 100);
            if (!happens(thing / 10, thing % 10) || tried.pairsAlike() > 0) {
                return at;
            }
        }
        return NONE;
    }

    // ---- codes, wind

    public int follow(int s, int w, boolean surely) {
        if (!isState(s) || !isWord(w)) {
            return OUTSIDE;
        }
        return followed.add(s, w, surely) ? followed.size() : FULL;
    }

    public int unfollow() {
        int before = followed.size();
        followed.clear();
        return before;
    }

    public int codes(boolean row) {
        return row ? followed.firstCode() : followed.codesLeft();
    }

    public int look() {
        return followed.bestState();
    }

    public int will(int window, int was, int is) {
        if (!houses.has(window)) {
            return UNKNOWN;
        }
        if (!isState(was) || !isState(is) || was == is) {
            return OUTSIDE;
        }
        int kind = houses.kind(window);
        if (kind == DEAD) {
            return 0;
        }
        return kind == LOOSE && (was ^ is) == LEFT_LEAF ? 2 : 1;
    }

    // ---- crossing, parties, chances

    public int cross(int one, int other) {
        int refusal = refusalOfTwo(one, other);
        if (refusal != NONE) {
            return refusal;
        }
        ways.hoursBetween(one, other, hoursThere);
        ways.hoursBetween(other, one, hoursBack);
        int first = NONE;
        for (int between = 0; between < MOST_WINDOWS; between++) {
            int hour = hoursThere[between];
            if (hour != NONE && hour == hoursBack[between] && (first == NONE || hour < first)) {
                first = hour;
            }
        }
        return first;
    }

    public int rests(int what) {
        if (what < 0 || what > 1) {
            return OUTSIDE;
        }
        int many = 0;
        int first = NONE;
        for (int one = 0; one < houses.windows(); one++) {
            for (int other = 0; other < houses.windows(); other++) {
                if (houses.isBestAgainst(one, other) && houses.isBestAgainst(other, one)) {
                    first = many == 0 ? 10 * one + other : first;
                    many++;
                }
            }
        }
        return what == 0 ? many : first;
    }

    public int slams(int window, int word, int x, boolean upper) {
        if (!houses.has(window)) {
            return UNKNOWN;
        }
        if (!isWord(word) || x < 0 || x > 10) {
            return OUTSIDE;
        }
        int loose = houses.sees(window) & houses.ofKind(LOOSE);
        int above = 0;
        int below = 0;
        for (int moved = 0; moved < houses.sets(); moved++) {
            if ((moved & ~loose) == 0) {
                int weight = weightOf(moved, loose, x);
                below += weight;
                above += now.isRead(window, word, moved) ? weight : 0;
            }
        }
        int common = commonDivisor(above, below);
        if (common < 1) {
            return NONE;
        }
        return upper ? above / common : below / common;
    }

    public long seed(long v) {
        long before = theSeed;
        theSeed = v;
        return before;
    }

    public int afternoons(int m) {
        if (m < 1 || m > MOST_AFTERNOONS) {
            return OUTSIDE;
        }
        tried.copy(now);
        for (int time = 0; time < m; time++) {
            theSeed = theSeed * SEED_TIMES + SEED_MORE;
            int drawn = (int) ((theSeed >>> 33) % 32);
            if (tried.canShift(drawn / STATES, drawn % STATES)) {
                tried.shift(drawn / STATES, drawn % STATES);
            }
            tried.blow();
        }
        return tried.pairsAlike();
    }

    // ---- slots

    public int keep(int slot) {
        if (!slots.has(slot)) {
            return UNKNOWN;
        }
        slots.put(slot, now);
        return now.theHour();
    }

    public int again(int slot) {
        if (!slots.has(slot)) {
            return UNKNOWN;
        }
        if (!slots.isKept(slot)) {
            return STATE;
        }
        slots.giveBack(slot, now);
        acts.clear();
        return now.theHour();
    }

    public int count(int what) {
        switch (what) {
            case 0:
                return text.size();
            case 1:
                return houses.windows();
            case 2:
                return houses.sight();
            case 3:
                return now.theHour();
            case 4:
                return houses.wordsAsFigures();
            case 5:
                return now.dueCount();
            case 6:
                return acts.size();
            case 7:
                return followed.size();
            case 8:
                return now.pairsAlike();
            default:
                return OUTSIDE;
        }
    }

    // ---- what several calls share

    private static boolean isState(int number) {
        return number >= 0 && number < STATES;
    }

    private static boolean isWord(int number) {
        return number >= 0 && number < WORDS;
    }

    /** Sets are tried from the least bits on, so a like one that comes later is never better. */
    private static boolean isFewer(int set, int best) {
        return best == NONE || Integer.bitCount(set) < Integer.bitCount(best);
    }

    private int refusalOfTwo(int one, int other) {
        if (!houses.has(one) || !houses.has(other)) {
            return UNKNOWN;
        }
        return one == other ? OUTSIDE : NONE;
    }

    /** What is in front of the last things of a row, each told by two figures. */
    private static long withoutLast(long row, int things) {
        long left = row;
        for (int thing = 0; thing < things; thing++) {
            left /= 100;
        }
        return left;
    }

    private boolean happens(int first, int second) {
        if (first == WIND_OR_HOUR && second == 0) {
            tried.blow();
            return true;
        }
        if (first == WIND_OR_HOUR && second == 1) {
            tried.strike();
            return true;
        }
        if (!tried.canShift(first, second)) {
            return false;
        }
        tried.shift(first, second);
        return true;
    }

    private static int weightOf(int moved, int loose, int x) {
        int weight = 1;
        for (int window = 0; window < MOST_WINDOWS; window++) {
            if ((loose >> window & 1) == 1) {
                weight *= (moved >> window & 1) == 1 ? x : 10 - x;
            }
        }
        return weight;
    }

    private static int commonDivisor(int one, int other) {
        int greater = other;
        int less = one;
        // Euclid's steps on numbers up to a million are some thirty at most.
        for (int step = 0; step < 100 && less > 0; step++) {
            int left = greater % less;
            greater = less;
            less = left;
        }
        return greater;
    }

    /** THE TEXT. */
    private static final class Letters {
        private final int[] row = new int[MOST_LETTERS];
        private int length;

        int size() {
            return length;
        }

        boolean add(int letter) {
            if (length < 0 || length >= MOST_LETTERS) {
                return false;
            }
            row[length] = letter;
            length++;
            return true;
        }

        void clear() {
            length = 0;
        }

        int firstFault() {
            for (int at = 0; at < length; at++) {
                boolean fits = at < LINE ? fitsHead(at) : fitsWindow(at);
                if (!fits) {
                    return at;
                }
            }
            return length >= LINE && length % LINE == 0 ? NONE : length;
        }

        /** The figure there; -1 where there is another letter, or none. */
        int figure(int at) {
            if (at < 0 || at >= length || at >= MOST_LETTERS) {
                return -1;
            }
            return row[at] >= '0' && row[at] <= '9' ? row[at] - '0' : -1;
        }

        private boolean isLetter(int at, char letter) {
            return at >= 0 && at < MOST_LETTERS && row[at] == letter;
        }

        private boolean isFigure(int at, int least, int most) {
            int figure = figure(at);
            return figure >= least && figure <= most;
        }

        private boolean fitsHead(int at) {
            if (at == 0) {
                return isLetter(at, 'S');
            }
            return at < LINE - 1 ? isFigure(at, 0, WORDS - 1) : isFigure(at, 1, 9);
        }

        private boolean fitsWindow(int at) {
            switch (at % LINE) {
                case 0:
                    return isLetter(at, 'W') && at / LINE <= MOST_WINDOWS;
                case 1:
                    return isFigure(at, 0, 9) && !(isTaken(at, 0) && isTaken(at, 1));
                case 2:
                    return isFigure(at, 0, 1) && !isTaken(at - 1, figure(at));
                default:
                    return isFigure(at, 0, 3);
            }
        }

        /** Whether a WINDOW told before has the PLACE that is told there, on that side. */
        private boolean isTaken(int at, int side) {
            for (int before = LINE + 1; before < at; before += LINE) {
                if (figure(before) == figure(at) && figure(before + 1) == side) {
                    return true;
                }
            }
            return false;
        }
    }

    /** What of THE TOWN stays as it was told: all but its STATES. */
    private static final class Houses {
        private final int[] words = {0, 1, 2, 3};
        private final int[] places = new int[MOST_WINDOWS];
        private final int[] sides = new int[MOST_WINDOWS];
        private final int[] floors = new int[MOST_WINDOWS];
        private final int[] kinds = new int[MOST_WINDOWS];
        private final int[] seen = new int[MOST_WINDOWS];
        private int sight = 1;
        private int count;

        void build(Letters text) {
            for (int state = 0; state < STATES; state++) {
                words[state] = text.figure(1 + state);
            }
            sight = text.figure(LINE - 1);
            count = Math.max(0, Math.min(MOST_WINDOWS, text.size() / LINE - 1));
            for (int window = 0; window < count; window++) {
                int start = LINE * (window + 1);
                places[window] = text.figure(start + 1);
                sides[window] = text.figure(start + 2);
                floors[window] = text.figure(start + 3);
                kinds[window] = text.figure(start + 5);
            }
            for (int window = 0; window < count; window++) {
                seen[window] = facing(window);
            }
        }

        boolean has(int window) {
            return window >= 0 && window < count && window < MOST_WINDOWS;
        }

        int windows() {
            return count;
        }

        /** How many sets of WINDOWS there are: each is a number below this one. */
        int sets() {
            return 1 << count;
        }

        int sight() {
            return sight;
        }

        int place(int window) {
            return has(window) ? places[window] : NONE;
        }

        int side(int window) {
            return has(window) ? sides[window] : NONE;
        }

        int floor(int window) {
            return has(window) ? floors[window] : NONE;
        }

        int kind(int window) {
            return has(window) ? kinds[window] : NONE;
        }

        int sees(int window) {
            return has(window) ? seen[window] : 0;
        }

        boolean areFacing(int one, int other) {
            return has(other) && (sees(one) >> other & 1) == 1;
        }

        int ofKind(int kind) {
            int found = 0;
            for (int window = 0; window < count; window++) {
                found |= kind(window) == kind ? 1 << window : 0;
            }
            return found;
        }

        int wordOf(int state) {
            return isState(state) ? words[state] : NONE;
        }

        int leastStateFor(int word) {
            for (int state = 0; state < STATES; state++) {
                if (words[state] == word) {
                    return state;
                }
            }
            return NONE;
        }

        int wordsAsFigures() {
            int figures = 0;
            for (int state = 0; state < STATES; state++) {
                figures = 10 * figures + words[state];
            }
            return figures;
        }

        /** Those that are shown, and those that SEE one of them. */
        int reachedBy(int shown) {
            int reached = shown;
            for (int window = 0; window < count; window++) {
                reached |= (shown >> window & 1) == 1 ? sees(window) : 0;
            }
            return reached;
        }

        /** Whether the PARTY that let the one has no more by another WINDOW. */
        boolean isBestAgainst(int one, int other) {
            for (int instead = 0; instead < count; instead++) {
                if (gain(instead, other) > gain(one, other)) {
                    return false;
                }
            }
            return true;
        }

        private int gain(int own, int others) {
            return Integer.bitCount(sees(own) & ~sees(others));
        }

        private int facing(int window) {
            int found = 0;
            for (int other = 0; other < count; other++) {
                boolean across = side(window) != side(other);
                boolean near = Math.abs(place(window) - place(other)) <= sight;
                boolean level = Math.abs(floor(window) - floor(other)) <= 1;
                found |= across && near && level ? 1 << other : 0;
            }
            return found;
        }
    }

    /** What ACTS change: STATES, what is to be PASSED ON, THE HOUR. */
    private static final class Shutters {
        private final Houses houses;
        private final int[] states = new int[MOST_WINDOWS];
        private final int[] dues = new int[MOST_WINDOWS];
        private int hour;

        Shutters(Houses houses) {
            this.houses = houses;
        }

        void begin(Letters text) {
            for (int window = 0; window < houses.windows(); window++) {
                states[window] = text.figure(LINE * (window + 1) + 4);
            }
            Arrays.fill(dues, NONE);
            hour = 0;
        }

        int state(int window) {
            return houses.has(window) ? states[window] : NONE;
        }

        int word(int window) {
            return houses.wordOf(state(window));
        }

        int due(int window) {
            return houses.has(window) ? dues[window] : NONE;
        }

        int theHour() {
            return hour;
        }

        int dueCount() {
            int found = 0;
            for (int window = 0; window < houses.windows(); window++) {
                found += dues[window] != NONE ? 1 : 0;
            }
            return found;
        }

        boolean canShift(int window, int state) {
            return houses.has(window) && isState(state)
                && houses.kind(window) != DEAD && states[window] != state;
        }

        void shift(int window, int state) {
            if (houses.has(window) && isState(state)) {
                states[window] = state;
            }
        }

        int blow() {
            int loose = houses.ofKind(LOOSE);
            for (int window = 0; window < houses.windows(); window++) {
                states[window] ^= (loose >> window & 1) == 1 ? LEFT_LEAF : 0;
            }
            return loose;
        }

        void takeUp(int window, int word) {
            if (!houses.has(window)) {
                return;
            }
            if (houses.kind(window) == DEAF) {
                shift(window, houses.leastStateFor(word));
            } else {
                dues[window] = word;
            }
        }

        /** AN HOUR: which WINDOWS say another word then. */
        int strike() {
            int others = 0;
            for (int window = 0; window < houses.windows(); window++) {
                if (dues[window] != NONE) {
                    others |= word(window) != dues[window] ? 1 << window : 0;
                    shift(window, houses.leastStateFor(dues[window]));
                    dues[window] = NONE;
                }
            }
            hour++;
            return others;
        }

        int pairsAlike() {
            int pairs = 0;
            for (int one = 0; one < houses.windows(); one++) {
                for (int other = one + 1; other < houses.windows(); other++) {
                    pairs += houses.areFacing(one, other) && word(one) == word(other) ? 1 : 0;
                }
            }
            return pairs;
        }

        /** Whether a WINDOW READS the word once the wind has moved those. */
        boolean isRead(int window, int word, int moved) {
            for (int other = 0; other < houses.windows(); other++) {
                int state = state(other) ^ ((moved >> other & 1) == 1 ? LEFT_LEAF : 0);
                if (houses.areFacing(window, other) && houses.wordOf(state) == word) {
                    return true;
                }
            }
            return false;
        }

        void copy(Shutters other) {
            System.arraycopy(other.states, 0, states, 0, MOST_WINDOWS);
            System.arraycopy(other.dues, 0, dues, 0, MOST_WINDOWS);
            hour = other.hour;
        }

        void store(int[] rows, int at) {
            if (at < 0 || at > rows.length - SNAPSHOT) {
                return;
            }
            System.arraycopy(states, 0, rows, at, MOST_WINDOWS);
            System.arraycopy(dues, 0, rows, at + MOST_WINDOWS, MOST_WINDOWS);
            rows[at + SNAPSHOT - 1] = hour;
        }

        void restore(int[] rows, int at) {
            if (at < 0 || at > rows.length - SNAPSHOT) {
                return;
            }
            System.arraycopy(rows, at, states, 0, MOST_WINDOWS);
            System.arraycopy(rows, at + MOST_WINDOWS, dues, 0, MOST_WINDOWS);
            hour = rows[at + SNAPSHOT - 1];
        }
    }

    /** THE ROW of ACTS, each told by how all was before it. */
    private static final class Acts {
        private final int[] rows = new int[MOST_ACTS * SNAPSHOT];
        private int size;

        int size() {
            return size;
        }

        void clear() {
            size = 0;
        }

        void remember(Shutters before) {
            if (size >= MOST_ACTS) {
                forgetFirst();
            }
            before.store(rows, size * SNAPSHOT);
            size++;
        }

        void giveBack(Shutters shutters) {
            if (size > 0) {
                size--;
                shutters.restore(rows, size * SNAPSHOT);
            }
        }

        private void forgetFirst() {
            System.arraycopy(rows, SNAPSHOT, rows, 0, (MOST_ACTS - 1) * SNAPSHOT);
            size = MOST_ACTS - 1;
        }
    }

    /** What is kept to be gone on from. */
    private static final class Slots {
        private final int[] rows = new int[SLOTS * SNAPSHOT];
        private int kept;

        boolean has(int slot) {
            return slot >= 0 && slot < SLOTS;
        }

        boolean isKept(int slot) {
            return has(slot) && (kept >> slot & 1) == 1;
        }

        void clear() {
            kept = 0;
        }

        void put(int slot, Shutters shutters) {
            if (has(slot)) {
                shutters.store(rows, slot * SNAPSHOT);
                kept |= 1 << slot;
            }
        }

        void giveBack(int slot, Shutters shutters) {
            if (isKept(slot)) {
                shutters.restore(rows, slot * SNAPSHOT);
            }
        }
    }

    /** The first of the SOONEST WAYS from one WINDOW to each. */
    private static final class Ways {
        /** Above all WAYS as figures, so that a rank below another one has fewer HOURS, or as many and comes first. */
        private static final long RANK_OF_HOUR = 10000000L;
        private static final long NEVER = 100 * RANK_OF_HOUR;

        private final Houses houses;
        private final long[] ranks = new long[MOST_WINDOWS];

        Ways(Houses houses) {
            this.houses = houses;
        }

        /** A WINDOW that a WAY meets twice only makes it longer: so the best ones have each once of themselves. */
        void measure(int from, int dead) {
            Arrays.fill(ranks, NEVER);
            if (!houses.has(from)) {
                return;
            }
            ranks[from] = from + 1;
            for (int round = 0; round < houses.windows(); round++) {
                for (int via = 0; via < houses.windows(); via++) {
                    if (via == from) {
                        goOn(via, 0);
                    } else if (houses.kind(via) != DEAD && (dead >> via & 1) == 0) {
                        goOn(via, hoursAt(via));
                    }
                }
            }
        }

        boolean comesTo(int to) {
            return houses.has(to) && ranks[to] != NEVER;
        }

        int hoursTo(int to) {
            return comesTo(to) ? (int) (ranks[to] / RANK_OF_HOUR) : NONE;
        }

        int wayTo(int to) {
            return comesTo(to) ? (int) (ranks[to] % RANK_OF_HOUR) : NONE;
        }

        /** The HOURS at which those between say the word; NONE for all others. */
        void hoursBetween(int from, int to, int[] hours) {
            Arrays.fill(hours, NONE);
            measure(from, 0);
            if (!comesTo(to)) {
                return;
            }
            int hour = hoursTo(to);
            int left = wayTo(to) / 10;
            for (int step = 0; step < MOST_WINDOWS && left >= 10; step++) {
                int between = left % 10 - 1;
                if (between >= 0 && between < hours.length) {
                    hours[between] = hour;
                }
                hour -= hoursAt(between);
                left /= 10;
            }
        }

        private int hoursAt(int between) {
            return houses.kind(between) == DEAF ? 0 : 1;
        }

        private void goOn(int via, int hours) {
            if (!comesTo(via)) {
                return;
            }
            long soFar = ranks[via] / RANK_OF_HOUR + hours;
            long way = ranks[via] % RANK_OF_HOUR;
            for (int to = 0; to < houses.windows(); to++) {
                if (houses.areFacing(to, via)) {
                    ranks[to] = Math.min(ranks[to], soFar * RANK_OF_HOUR + 10 * way + to + 1);
                }
            }
        }
    }

    /** What FOLLOWED. Each tells of one STATE alone, so the words left for one STATE do not hang on another's. */
    private static final class Followed {
        private static final int ALL_WORDS = 15;

        private final int[] wordsLeft = {ALL_WORDS, ALL_WORDS, ALL_WORDS, ALL_WORDS};
        private int size;

        int size() {
            return size;
        }

        void clear() {
            Arrays.fill(wordsLeft, ALL_WORDS);
            size = 0;
        }

        boolean add(int state, int word, boolean surely) {
            if (!isState(state) || !isWord(word) || size >= MOST_FOLLOWED) {
                return false;
            }
            int next = (word + 1) % WORDS;
            wordsLeft[state] &= surely ? 1 << word : 1 << word | 1 << next;
            size++;
            return true;
        }

        int codesLeft() {
            int codes = 1;
            for (int state = 0; state < STATES; state++) {
                codes *= Integer.bitCount(wordsLeft[state]);
            }
            return codes;
        }

        int firstCode() {
            if (codesLeft() == 0) {
                return NONE;
            }
            int figures = 0;
            for (int state = 0; state < STATES; state++) {
                figures = 10 * figures + Integer.numberOfTrailingZeros(wordsLeft[state]);
            }
            return figures;
        }

        /** All parts by a STATE are alike: they are least where most words are left. */
        int bestState() {
            if (codesLeft() == 0) {
                return NONE;
            }
            int best = 0;
            for (int state = 1; state < STATES; state++) {
                if (Integer.bitCount(wordsLeft[state]) > Integer.bitCount(wordsLeft[best])) {
                    best = state;
                }
            }
            return best;
        }
    }
}
