import java.math.BigInteger;
import java.util.ArrayDeque;
import java.util.ArrayList;
import java.util.Arrays;
import java.util.Comparator;
import java.util.Deque;
import java.util.HashMap;
import java.util.HashSet;
import java.util.List;
import java.util.Map;
import java.util.Set;
import java.util.TreeMap;
import java.util.TreeSet;

/**
 * The document told a second time, word by word and without thought for speed:
 * every set, way and code is tried. Made to be compared with ShutterTown, so it shares nothing with it.
 */
final class PlainTown {
    private record Window(int place, int side, int floor, int kind) {
    }

    private record Scene(List<Integer> states, Map<Integer, Integer> due, int hour) {
        Scene copy() {
            return new Scene(new ArrayList<>(states), new TreeMap<>(due), hour);
        }
    }

    private record Fact(int state, int word, boolean surely) {
    }

    private String text = "";
    private List<Integer> words = List.of(0, 1, 2, 3);
    private int sight = 1;
    private List<Window> windows = new ArrayList<>();
    private Scene now = new Scene(new ArrayList<>(), new TreeMap<>(), 0);
    private final Deque<Scene> acts = new ArrayDeque<>();
    private final Map<Integer, Scene> slots = new HashMap<>();
    private final List<Fact> facts = new ArrayList<>();
    private BigInteger theSeed = BigInteger.ZERO;

    // ---- the town

    int write(int letter) {
        if (letter < 0 || letter > 255) return -2;
        if (text.length() == 48) return -4;
        text = text + (char) letter;
        return text.length();
    }

    int wipe() {
        int was = text.length();
        text = "";
        return was;
    }

    private static boolean isTown(String told) {
        if (!told.matches("S[0-3]{4}[1-9](W[0-9][01][0-3][0-3][0-3]){0,6}")) return false;
        Set<String> spots = new HashSet<>();
        for (int at = 6; at < told.length(); at += 6) {
            if (!spots.add(told.substring(at + 1, at + 3))) return false;
        }
        return true;
    }

    /** Whether something behind it makes it a TOWN: all that could help is tried, to the end of its line. */
    private static boolean canBecomeTown(String told) {
        if (isTown(told)) return true;
        if (told.length() >= 6 && told.length() % 6 == 0) return false;
        String[] head = {"S", "0", "0", "0", "0", "1"};
        String[] window = {"W", "0123456789", "01", "0", "0", "0"};
        String letters = (told.length() < 6 ? head : window)[told.length() % 6];
        for (char letter : letters.toCharArray()) {
            if (canBecomeTown(told + letter)) return true;
        }
        return false;
    }

    int fault() {
        for (int length = 1; length <= text.length(); length++) {
            if (!canBecomeTown(text.substring(0, length))) return length - 1;
        }
        return isTown(text) ? -9 : text.length();
    }

    int town() {
        if (!isTown(text)) return -3;
        words = new ArrayList<>();
        for (int at = 1; at <= 4; at++) words.add(text.charAt(at) - '0');
        sight = text.charAt(5) - '0';
        windows = new ArrayList<>();
        List<Integer> states = new ArrayList<>();
        for (int at = 6; at < text.length(); at += 6) {
            int[] told = text.substring(at + 1, at + 6).chars().map(sign -> sign - '0').toArray();
            windows.add(new Window(told[0], told[1], told[2], told[4]));
            states.add(told[3]);
        }
        now = new Scene(states, new TreeMap<>(), 0);
        acts.clear();
        slots.clear();
        return windows.size();
    }

    private boolean there(int window) {
        return window >= 0 && window < windows.size();
    }

    private boolean sees(int one, int other) {
        Window a = windows.get(one);
        Window b = windows.get(other);
        if (a.side == b.side) return false;
        if (a.place - b.place > sight || b.place - a.place > sight) return false;
        return a.floor - b.floor <= 1 && b.floor - a.floor <= 1;
    }

    private Set<Integer> seenBy(int window) {
        Set<Integer> seen = new TreeSet<>();
        for (int other = 0; other < windows.size(); other++) {
            if (sees(window, other)) seen.add(other);
        }
        return seen;
    }

    private static int bits(Set<Integer> set) {
        int bits = 0;
        for (int one : set) bits += (int) Math.pow(2, one);
        return bits;
    }

    private int says(Scene scene, int window) {
        return words.get(scene.states.get(window));
    }

    private boolean isKind(int window, int kind) {
        return windows.get(window).kind == kind;
    }

    int window(int window, int what) {
        if (!there(window)) return -1;
        if (what < 0 || what > 7) return -2;
        Window w = windows.get(window);
        int[] told = {w.place, w.side, w.floor, now.states.get(window), w.kind, says(now, window),
            bits(seenBy(window)), now.due.getOrDefault(window, -9)};
        return told[what];
    }

    // ---- acts

    private void act() {
        acts.addLast(now);
        if (acts.size() > 14) acts.removeFirst();
        now = now.copy();
    }

    int move(int window, int state) {
        if (!there(window)) return -1;
        if (state < 0 || state > 3) return -2;
        if (now.states.get(window) == state || isKind(window, 3)) return -3;
        act();
        now.states.set(window, state);
        return says(now, window);
    }

    private Set<Integer> windIn(Scene scene) {
        int[] behind = {1, 0, 3, 2};
        Set<Integer> moved = new TreeSet<>();
        for (int window = 0; window < windows.size(); window++) {
            if (isKind(window, 2)) {
                scene.states.set(window, behind[scene.states.get(window)]);
                moved.add(window);
            }
        }
        return moved;
    }

    int wind() {
        act();
        return bits(windIn(now));
    }

    int pass(int window, int from) {
        if (!there(window) || !there(from)) return -1;
        if (!sees(window, from) || isKind(window, 3)) return -3;
        act();
        int word = says(now, from);
        if (isKind(window, 1)) now.states.set(window, words.indexOf(word));
        else now.due.put(window, word);
        return word;
    }

    private Scene hourIn(Scene scene) {
        Scene then = new Scene(new ArrayList<>(scene.states), new TreeMap<>(), scene.hour + 1);
        scene.due.forEach((window, word) -> then.states.set(window, words.indexOf(word)));
        return then;
    }

    int hour() {
        act();
        Scene was = now;
        now = hourIn(now);
        Set<Integer> others = new TreeSet<>();
        for (int window = 0; window < windows.size(); window++) {
            if (says(was, window) != says(now, window)) others.add(window);
        }
        return bits(others);
    }

    int undo() {
        if (acts.isEmpty()) return -3;
        now = acts.removeLast();
        return acts.size();
    }

    // ---- ways

    private int hoursOf(List<Integer> way) {
        int hours = 0;
        for (int at = 1; at < way.size() - 1; at++) {
            if (!isKind(way.get(at), 1)) hours++;
        }
        return hours;
    }

    private static int figures(List<Integer> way) {
        int figures = 0;
        for (int window : way) figures = figures * 10 + window + 1;
        return figures;
    }

    private void waysFrom(List<Integer> soFar, int to, Set<Integer> dead, List<List<Integer>> found) {
        int last = soFar.get(soFar.size() - 1);
        if (last == to) {
            found.add(new ArrayList<>(soFar));
            return;
        }
        if (soFar.size() > 1 && (isKind(last, 3) || dead.contains(last))) return;
        for (int next = 0; next < windows.size(); next++) {
            if (sees(next, last) && !soFar.contains(next)) {
                soFar.add(next);
                waysFrom(soFar, to, dead, found);
                soFar.remove(soFar.size() - 1);
            }
        }
    }

    /** The first of the SOONEST WAYS; null: never. */
    private List<Integer> best(int from, int to, Set<Integer> dead) {
        List<List<Integer>> found = new ArrayList<>();
        waysFrom(new ArrayList<>(List.of(from)), to, dead, found);
        return found.stream().min(Comparator.<List<Integer>>comparingInt(this::hoursOf)
            .thenComparingInt(List::size).thenComparingInt(PlainTown::figures)).orElse(null);
    }

    int soonest(int from, int to, boolean way) {
        if (!there(from) || !there(to)) return -1;
        if (from == to) return -2;
        List<Integer> best = best(from, to, Set.of());
        if (best == null) return -9;
        return way ? figures(best) : hoursOf(best);
    }

    int knows(int from, int n) {
        if (!there(from)) return -1;
        if (n < 0 || n > 9) return -2;
        Set<Integer> knowing = new TreeSet<>(Set.of(from));
        for (int to = 0; to < windows.size(); to++) {
            List<Integer> best = best(from, to, Set.of());
            if (best != null && hoursOf(best) <= n) knowing.add(to);
        }
        return bits(knowing);
    }

    private List<Set<Integer>> allSets() {
        List<Set<Integer>> sets = new ArrayList<>();
        for (int number = 0; number < Math.pow(2, windows.size()); number++) {
            Set<Integer> set = new TreeSet<>();
            for (int one = 0; one < windows.size(); one++) {
                if (number / (int) Math.pow(2, one) % 2 == 1) set.add(one);
            }
            sets.add(set);
        }
        sets.sort(Comparator.<Set<Integer>>comparingInt(Set::size).thenComparingInt(PlainTown::bits));
        return sets;
    }

    int toTell(int told) {
        if (told < 0 || told >= Math.pow(2, windows.size())) return -2;
        for (Set<Integer> shown : allSets()) {
            boolean good = true;
            for (int window = 0; window < windows.size(); window++) {
                boolean isTold = told / (int) Math.pow(2, window) % 2 == 1;
                boolean reads = shown.contains(window);
                for (int other : shown) reads |= sees(window, other);
                good &= isTold == reads;
            }
            if (good) return bits(shown);
        }
        return -9;
    }

    int cut(int from, int to) {
        if (!there(from) || !there(to)) return -1;
        if (from == to) return -2;
        for (Set<Integer> dead : allSets()) {
            if (!dead.contains(from) && !dead.contains(to) && best(from, to, dead) == null) return bits(dead);
        }
        return -9;
    }

    private int pairs(Scene scene) {
        int pairs = 0;
        for (int one = 0; one < windows.size(); one++) {
            for (int other = 0; other < one; other++) {
                if (sees(one, other) && says(scene, one) == says(scene, other)) pairs++;
            }
        }
        return pairs;
    }

    int judge(int n, long row) {
        if (n < 1 || n > 5 || row < 0 || String.valueOf(row).length() > 2 * n) return -2;
        String told = ("0000000000" + row);
        told = told.substring(told.length() - 2 * n);
        Scene scene = now.copy();
        for (int at = 0; at < n; at++) {
            String thing = told.substring(2 * at, 2 * at + 2);
            int window = thing.charAt(0) - '0';
            int state = thing.charAt(1) - '0';
            if (thing.equals("90")) windIn(scene);
            else if (thing.equals("91")) scene = hourIn(scene);
            else if (!there(window) || state > 3 || isKind(window, 3) || scene.states.get(window) == state) return at;
            else scene.states.set(window, state);
            if (pairs(scene) > 0) return at;
        }
        return -9;
    }

    // ---- codes, wind

    int follow(int s, int w, boolean surely) {
        if (s < 0 || s > 3 || w < 0 || w > 3) return -2;
        if (facts.size() == 6) return -4;
        facts.add(new Fact(s, w, surely));
        return facts.size();
    }

    int unfollow() {
        int were = facts.size();
        facts.clear();
        return were;
    }

    private List<int[]> left() {
        List<int[]> codes = new ArrayList<>();
        for (int number = 0; number < 256; number++) {
            int[] code = {number / 64, number / 16 % 4, number / 4 % 4, number % 4};
            boolean good = true;
            for (Fact fact : facts) {
                int word = code[fact.state];
                int next = fact.word == 3 ? 0 : fact.word + 1;
                good &= word == fact.word || !fact.surely && word == next;
            }
            if (good) codes.add(code);
        }
        return codes;
    }

    int codes(boolean row) {
        List<int[]> codes = left();
        if (!row) return codes.size();
        if (codes.isEmpty()) return -9;
        int[] first = codes.get(0);
        return 1000 * first[0] + 100 * first[1] + 10 * first[2] + first[3];
    }

    int look() {
        List<int[]> codes = left();
        if (codes.isEmpty()) return -9;
        int best = -1;
        int bestPart = 999;
        for (int state = 0; state < 4; state++) {
            int[] parts = new int[4];
            for (int[] code : codes) parts[code[state]]++;
            int greatest = Arrays.stream(parts).max().getAsInt();
            if (greatest < bestPart) {
                bestPart = greatest;
                best = state;
            }
        }
        return best;
    }

    int will(int window, int was, int is) {
        if (!there(window)) return -1;
        if (was < 0 || was > 3 || is < 0 || is > 3 || was == is) return -2;
        if (isKind(window, 3)) return 0;
        boolean rightStays = was / 2 == is / 2;
        return isKind(window, 2) && rightStays ? 2 : 1;
    }

    // ---- crossing, parties, chances

    private Map<Integer, Integer> saidAt(List<Integer> way) {
        Map<Integer, Integer> said = new HashMap<>();
        int hour = 0;
        for (int at = 1; at < way.size() - 1; at++) {
            if (!isKind(way.get(at), 1)) hour++;
            said.put(way.get(at), hour);
        }
        return said;
    }

    int cross(int one, int other) {
        if (!there(one) || !there(other)) return -1;
        if (one == other) return -2;
        List<Integer> way = best(one, other, Set.of());
        List<Integer> back = best(other, one, Set.of());
        if (way == null || back == null) return -9;
        Map<Integer, Integer> saidBack = saidAt(back);
        int first = 99;
        for (Map.Entry<Integer, Integer> said : saidAt(way).entrySet()) {
            if (said.getValue().equals(saidBack.get(said.getKey()))) first = Math.min(first, said.getValue());
        }
        return first == 99 ? -9 : first;
    }

    private int has(int own, int others) {
        if (own == others) return 0;
        int many = 0;
        for (int window = 0; window < windows.size(); window++) {
            if (sees(window, own) && !sees(window, others)) many++;
        }
        return many;
    }

    int rests(int what) {
        if (what != 0 && what != 1) return -2;
        List<Integer> found = new ArrayList<>();
        for (int one = 0; one < windows.size(); one++) {
            for (int other = 0; other < windows.size(); other++) {
                boolean rests = true;
                for (int another = 0; another < windows.size(); another++) {
                    rests &= has(another, other) <= has(one, other) && has(another, one) <= has(other, one);
                }
                if (rests) found.add(10 * one + other);
            }
        }
        if (what == 0) return found.size();
        return found.isEmpty() ? -9 : found.get(0);
    }

    /** In parts of ten to the sixth: the chance that none of those from here on shows the word. */
    private BigInteger noneShows(int reader, int word, int x, int from) {
        if (from == windows.size()) return BigInteger.ONE;
        BigInteger rest = noneShows(reader, word, x, from + 1);
        int state = now.states.get(from);
        int stays = words.get(state) == word && sees(reader, from) ? 0 : 1;
        int moves = words.get(state % 2 == 0 ? state + 1 : state - 1) == word && sees(reader, from) ? 0 : 1;
        int tenths = isKind(from, 2) ? stays * (10 - x) + moves * x : stays * 10;
        return rest.multiply(BigInteger.valueOf(tenths));
    }

    int slams(int window, int word, int x, boolean upper) {
        if (!there(window)) return -1;
        if (word < 0 || word > 3 || x < 0 || x > 10) return -2;
        BigInteger all = BigInteger.TEN.pow(windows.size());
        BigInteger reads = all.subtract(noneShows(window, word, x, 0));
        BigInteger common = reads.gcd(all);
        return (upper ? reads : all).divide(common).intValueExact();
    }

    long seed(long v) {
        long was = theSeed.longValue();
        theSeed = BigInteger.valueOf(v);
        return was;
    }

    int afternoons(int m) {
        if (m < 1 || m > 30) return -2;
        Scene scene = now.copy();
        BigInteger whole = BigInteger.TWO.pow(64);
        for (int time = 0; time < m; time++) {
            theSeed = theSeed.multiply(new BigInteger("6364136223846793005"))
                .add(new BigInteger("1442695040888963407")).mod(whole);
            int left = theSeed.divide(BigInteger.TWO.pow(33)).mod(BigInteger.valueOf(32)).intValue();
            int window = left / 4;
            int state = left - 4 * window;
            if (there(window) && !isKind(window, 3)) scene.states.set(window, state);
            windIn(scene);
        }
        return pairs(scene);
    }

    // ---- slots

    int keep(int slot) {
        if (slot != 0 && slot != 1) return -1;
        slots.put(slot, now.copy());
        return now.hour;
    }

    int again(int slot) {
        if (slot != 0 && slot != 1) return -1;
        if (!slots.containsKey(slot)) return -3;
        now = slots.get(slot).copy();
        acts.clear();
        return now.hour;
    }

    int count(int what) {
        if (what < 0 || what > 8) return -2;
        int asFigures = 0;
        for (int word : words) asFigures = 10 * asFigures + word;
        int[] counts = {text.length(), windows.size(), sight, now.hour, asFigures, now.due.size(), acts.size(),
            facts.size(), pairs(now)};
        return counts[what];
    }
}
