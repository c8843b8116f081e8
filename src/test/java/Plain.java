import java.util.ArrayDeque;
import java.util.ArrayList;
import java.util.Arrays;
import java.util.Deque;
import java.util.HashMap;
import java.util.HashSet;
import java.util.List;
import java.util.Map;
import java.util.NoSuchElementException;
import java.util.Set;
import java.util.function.IntPredicate;

/** The document's words said again, as plainly and as slowly as can be: what GentleRoad is measured by. */
final class Plain {
    private static final int[][] MOVES = {{-1, 0}, {-1, 1}, {0, 1}, {1, 1}, {1, 0}, {1, -1}, {0, -1}, {-1, -1}};
    private static final String[] WORDS =
            {"grade", "bend", "flat", "rise", "turn", "hair", "bore", "depth", "dig", "fill", "spoil"};
    private static final int[][] BOUNDS = {{1, 99}, {0, 4}, {0, 99}, {0, 9}, {0, 9}, {0, 99}, {0, 99}, {0, 3},
        {0, 9}, {0, 9}, {0, 30}};

    /** All that the image keeps. */
    private static final class State {
        int wide;
        int deep;
        int[] height = new int[0];
        boolean[] wet = new boolean[0];
        int[] term = {20, 1, 2, 2, 1, 20, 50, 1, 1, 1, 5};
        List<List<Integer>> roads = new ArrayList<>(Arrays.asList(null, null, null, null));
        List<List<Integer>> offsets = new ArrayList<>(Arrays.asList(null, null, null, null));

        State copy() {
            State s = new State();
            s.wide = wide;
            s.deep = deep;
            s.height = height.clone();
            s.wet = wet.clone();
            s.term = term.clone();
            s.roads = new ArrayList<>(roads);
            s.offsets = new ArrayList<>(offsets);
            return s;
        }
    }

    private State now = new State();
    private State image;
    private final Deque<State> past = new ArrayDeque<>();
    private List<Integer> tape = new ArrayList<>();
    private int fault = -1;
    private final Set<Long> blocked = new HashSet<>();

    // ---- the tape and the text

    int feed(int... numbers) {
        if (tape.size() > 380) {
            return -1;
        }
        for (int number : numbers) {
            for (byte b : java.nio.ByteBuffer.allocate(4).putInt(number).array()) {
                tape.add(b & 255);
            }
        }
        return tape.size();
    }

    void tell(String text) {
        for (char c : text.toCharArray()) {
            tape.add((int) c);
        }
    }

    boolean end(int n) {
        if (n < 0 || tape.size() < n) {
            return false;
        }
        tape = new ArrayList<>(tape.subList(0, n));
        return true;
    }

    private static final class Thing {
        final String text;
        final int begin;

        Thing(String text, int begin) {
            this.text = text;
            this.begin = begin;
        }

        boolean isNumber(int low, int high) {
            return text.matches("[0-9]{1,2}") && Integer.parseInt(text) >= low && Integer.parseInt(text) <= high;
        }
    }

    private List<Thing> things() {
        StringBuilder all = new StringBuilder();
        for (int b : tape) {
            all.append((char) b);
        }
        List<Thing> things = new ArrayList<>();
        java.util.regex.Matcher m = java.util.regex.Pattern.compile("[a-z]+|[0-9]+|[^ ]", java.util.regex.Pattern.DOTALL)
                .matcher(all);
        while (m.find()) {
            things.add(new Thing(m.group(), m.start()));
        }
        things.add(new Thing("", tape.size()));
        return things;
    }

    private int read(State s) {
        List<Thing> t = things();
        int i = 0;
        if (!t.get(i).text.equals("land")) {
            return t.get(i).begin;
        }
        i++;
        if (!t.get(i).isNumber(2, 9)) {
            return t.get(i).begin;
        }
        s.wide = Integer.parseInt(t.get(i++).text);
        if (!t.get(i).isNumber(2, 9)) {
            return t.get(i).begin;
        }
        s.deep = Integer.parseInt(t.get(i++).text);
        s.height = new int[s.wide * s.deep];
        s.wet = new boolean[s.wide * s.deep];
        for (int row = 0; row < s.deep; row++) {
            if (!t.get(i).text.equals(";")) {
                return t.get(i).begin;
            }
            i++;
            if (!t.get(i).text.equals("row")) {
                return t.get(i).begin;
            }
            i++;
            for (int column = 0; column < s.wide; column++) {
                if (!t.get(i).isNumber(0, 99)) {
                    return t.get(i).begin;
                }
                s.height[row * s.wide + column] = Integer.parseInt(t.get(i++).text);
            }
        }
        int clauses = 0;
        List<String> words = new ArrayList<>(Arrays.asList(WORDS));
        while (!t.get(i).text.isEmpty()) {
            if (!t.get(i).text.equals(";")) {
                return t.get(i).begin;
            }
            i++;
            Thing word = t.get(i);
            clauses++;
            if (clauses > 14 || !word.text.equals("wet") && !words.contains(word.text)) {
                return word.begin;
            }
            i++;
            Thing number = t.get(i);
            if (word.text.equals("wet")) {
                if (!number.isNumber(0, s.height.length - 1) || s.wet[Integer.parseInt(number.text)]) {
                    return number.begin;
                }
                s.wet[Integer.parseInt(number.text)] = true;
            } else {
                int which = Arrays.asList(WORDS).indexOf(word.text);
                if (!number.isNumber(BOUNDS[which][0], BOUNDS[which][1])) {
                    return number.begin;
                }
                s.term[which] = Integer.parseInt(number.text);
                words.remove(word.text);
            }
            i++;
        }
        return -1;
    }

    int land() {
        State s = new State();
        fault = read(s);
        tape.clear();
        if (fault != -1) {
            throw new IllegalArgumentException();
        }
        now = s;
        past.clear();
        return s.height.length;
    }

    int fault() {
        return fault;
    }

    // ---- what is asked first

    private void need(boolean is, RuntimeException or) {
        if (!is) {
            throw or;
        }
    }

    private void needPlaces(int... places) {
        for (int p : places) {
            need(p >= 0 && p < now.height.length, new IndexOutOfBoundsException());
        }
    }

    private void needRoad(int road) {
        need(road >= 0 && road <= 3, new IndexOutOfBoundsException());
    }

    private void needWhat(int what, int most) {
        need(what >= 0 && what <= most, new NoSuchElementException());
    }

    private void needNumber(boolean is) {
        need(is, new IllegalArgumentException());
    }

    private void needBuilt(int road) {
        need(now.roads.get(road) != null, new IllegalStateException());
    }

    private void act() {
        past.addLast(now.copy());
        if (past.size() > 8) {
            past.removeFirst();
        }
    }

    // ---- steps and bends

    private int beside(int p, int heading) {
        int row = p / now.wide + MOVES[heading][0];
        int column = p % now.wide + MOVES[heading][1];
        return row < 0 || row >= now.deep || column < 0 || column >= now.wide ? -1 : row * now.wide + column;
    }

    private int heading(int p, int q) {
        for (int g = 0; g < 8; g++) {
            if (beside(p, g) == q) {
                return g;
            }
        }
        throw new AssertionError("not beside");
    }

    private static int longOf(int heading) {
        return heading % 2 == 0 ? 10 : 14;
    }

    private int differ(int p, int q) {
        return Math.abs(now.height[p] - now.height[q]);
    }

    private static long pair(int p, int q) {
        return Math.min(p, q) * 100L + Math.max(p, q);
    }

    private boolean open(int p, int g) {
        int q = beside(p, g);
        if (q == -1 || now.wet[p] || now.wet[q] || blocked.contains(pair(p, q))) {
            return false;
        }
        return g % 2 == 0 || !(now.wet[beside(p, g - 1)] && now.wet[beside(p, (g + 1) % 8)]);
    }

    private boolean steep(int p, int g) {
        return 100 * differ(p, beside(p, g)) > now.term[0] * longOf(g);
    }

    private boolean step(int p, int g) {
        return open(p, g) && !steep(p, g);
    }

    private static int eighths(int f, int g) {
        return Math.min(Math.abs(f - g), 8 - Math.abs(f - g));
    }

    private boolean hairpin(int p) {
        for (int g = 0; g < 8; g++) {
            if (beside(p, g) != -1 && differ(p, beside(p, g)) > now.term[2]) {
                return false;
            }
        }
        return true;
    }

    private boolean bend(int p, int f, int g) {
        return eighths(f, g) <= now.term[1] || hairpin(p);
    }

    private int stepCost(int p, int g) {
        return longOf(g) + now.term[3] * differ(p, beside(p, g));
    }

    private int bendCost(int f, int g) {
        return eighths(f, g) <= now.term[1] ? now.term[4] * eighths(f, g) : now.term[5];
    }

    // ---- ways: for each last step the best row of places, bettered until nothing gets better

    private static final class Way {
        final int much;
        final List<Integer> places;

        Way(int much, List<Integer> places) {
            this.much = much;
            this.places = places;
        }

        boolean beats(Way other) {
            if (other == null || much != other.much) {
                return other == null || much < other.much;
            }
            if (places.size() != other.places.size()) {
                return places.size() < other.places.size();
            }
            for (int k = 0; k < places.size(); k++) {
                if (!places.get(k).equals(other.places.get(k))) {
                    return places.get(k) < other.places.get(k);
                }
            }
            return false;
        }
    }

    private int measure(int p, int g, int kind) {
        int q = beside(p, g);
        switch (kind) {
            case 0: return stepCost(p, g);
            case 1: return longOf(g);
            case 2: return Math.max(0, now.height[q] - now.height[p]);
            case 3: return 1;
            case 4: return usedPairs.contains(pair(p, q)) ? stepCost(p, g) / 2 : stepCost(p, g);
            default: return stepCost(p, g) + catches[q];
        }
    }

    private Set<Long> usedPairs;
    private int[] catches;

    /** The best way from a place to each one, null where there is none (and for itself). */
    private Way[] ways(int from, int kind) {
        int n = now.height.length;
        usedPairs = new HashSet<>();
        for (int r = 0; r < 4; r++) {
            if (now.roads.get(r) != null) {
                usedPairs.addAll(pairs(r));
            }
        }
        catches = new int[n];
        for (int p = 0; p < n; p++) {
            for (int q = p; q != -1; q = run(q)) {
                catches[q]++;
            }
        }
        boolean bendsCost = kind == 0 || kind >= 4;
        Way[][] by = new Way[n][8];
        Deque<int[]> todo = new ArrayDeque<>();
        for (int g = 0; g < 8; g++) {
            if (step(from, g)) {
                by[beside(from, g)][g] = new Way(measure(from, g, kind), List.of(from, beside(from, g)));
                todo.add(new int[] {beside(from, g), g});
            }
        }
        while (!todo.isEmpty()) {
            int[] state = todo.remove();
            Way way = by[state[0]][state[1]];
            for (int g = 0; g < 8; g++) {
                if (step(state[0], g) && bend(state[0], state[1], g)) {
                    int q = beside(state[0], g);
                    List<Integer> places = new ArrayList<>(way.places);
                    places.add(q);
                    int cost = measure(state[0], g, kind) + (bendsCost ? bendCost(state[1], g) : 0);
                    Way longer = new Way(way.much + cost, places);
                    if (longer.beats(by[q][g])) {
                        by[q][g] = longer;
                        todo.add(new int[] {q, g});
                    }
                }
            }
        }
        Way[] best = new Way[n];
        for (int q = 0; q < n; q++) {
            for (int g = 0; g < 8; g++) {
                if (q != from && by[q][g] != null && by[q][g].beats(best[q])) {
                    best[q] = by[q][g];
                }
            }
        }
        return best;
    }

    /** The places to which there is a way, by going on blindly. */
    private boolean[] found(int from) {
        boolean[] found = new boolean[now.height.length];
        Set<Integer> seen = new HashSet<>();
        Deque<Integer> stack = new ArrayDeque<>();
        for (int g = 0; g < 8; g++) {
            if (step(from, g)) {
                stack.push(from * 8 + g);
            }
        }
        while (!stack.isEmpty()) {
            int s = stack.pop();
            if (!seen.add(s)) {
                continue;
            }
            int q = beside(s / 8, s % 8);
            found[q] = true;
            for (int g = 0; g < 8; g++) {
                if (step(q, g) && bend(q, s % 8, g)) {
                    stack.push(q * 8 + g);
                }
            }
        }
        found[from] = false;
        return found;
    }

    // ---- the calls

    int place(int p, int what) {
        needPlaces(p);
        needWhat(what, 3);
        int bits = 0;
        for (int g = 0; g < 8; g++) {
            bits += step(p, g) ? 1 << g : 0;
        }
        return what == 0 ? now.height[p] : what == 1 ? (now.wet[p] ? 1 : 0) : what == 2 ? (hairpin(p) ? 1 : 0) : bits;
    }

    int term(int what) {
        needWhat(what, 10);
        return now.term[what];
    }

    int tune(int what, int n) {
        needWhat(what, 10);
        needNumber(n >= BOUNDS[what][0] && n <= BOUNDS[what][1]);
        act();
        int old = now.term[what];
        now.term[what] = n;
        return old;
    }

    int raise(int p, int n) {
        needPlaces(p);
        needNumber(n >= -99 && n <= 99 && now.height[p] + n >= 0 && now.height[p] + n <= 99);
        act();
        now.height[p] += n;
        return now.height[p];
    }

    boolean flood(int p, boolean is) {
        needPlaces(p);
        act();
        boolean was = now.wet[p];
        now.wet[p] = is;
        return was != is;
    }

    int build(int road, int from, int to) {
        needRoad(road);
        needPlaces(from, to);
        needNumber(from != to);
        Way way = ways(from, 0)[to];
        need(way != null && way.places.size() <= 40, new IllegalStateException());
        act();
        now.roads.set(road, way.places);
        now.offsets.set(road, new ArrayList<>(java.util.Collections.nCopies(way.places.size(), 0)));
        return way.much;
    }

    int drop(int road) {
        needRoad(road);
        needBuilt(road);
        act();
        int size = now.roads.get(road).size();
        now.roads.set(road, null);
        now.offsets.set(road, null);
        return size;
    }

    int level(int road, int rule) {
        needRoad(road);
        needNumber(rule >= 0 && rule <= 99);
        needBuilt(road);
        Way grading = grading(road, rule);
        need(grading != null, new IllegalStateException());
        act();
        now.offsets.set(road, grading.places);
        return grading.much;
    }

    int undo() {
        need(!past.isEmpty(), new IllegalStateException());
        now = past.removeLast();
        return past.size();
    }

    int best(int from, int to, int kind) {
        needPlaces(from, to);
        needWhat(kind, 5);
        needNumber(from != to);
        Way way = ways(from, kind)[to];
        return way == null ? -1 : way.much;
    }

    /** As best, to every place at once. */
    int[] bests(int from, int kind) {
        Way[] ways = ways(from, kind);
        int[] bests = new int[ways.length];
        for (int to = 0; to < ways.length; to++) {
            bests[to] = ways[to] == null ? -1 : ways[to].much;
        }
        return bests;
    }

    int along(int from, int to, int kind, int k) {
        needPlaces(from, to);
        needWhat(kind, 5);
        needNumber(from != to);
        Way way = ways(from, kind)[to];
        return way == null || k < 0 || k >= way.places.size() ? -1 : way.places.get(k);
    }

    int reach(int p) {
        needPlaces(p);
        int many = 0;
        for (boolean is : found(p)) {
            many += is ? 1 : 0;
        }
        return many;
    }

    int grade(int from, int to) {
        needPlaces(from, to);
        needNumber(from != to);
        int old = now.term[0];
        int least = -1;
        for (int g = 1; g <= 99 && least == -1; g++) {
            now.term[0] = g;
            least = found(from)[to] ? g : -1;
        }
        now.term[0] = old;
        return least;
    }

    int gate(int from, int to) {
        needPlaces(from, to);
        needNumber(from != to);
        if (!found(from)[to]) {
            return -1;
        }
        for (int p = 0; p < now.height.length; p++) {
            if (p != from && p != to) {
                boolean old = now.wet[p];
                now.wet[p] = true;
                boolean is = found(from)[to];
                now.wet[p] = old;
                if (!is) {
                    return p;
                }
            }
        }
        return -1;
    }

    int bored(int from, int to, int n) {
        needPlaces(from, to);
        needNumber(from != to && n >= 0 && n <= 3);
        Map<List<Integer>, Integer> costs = new HashMap<>();
        Deque<List<Integer>> todo = new ArrayDeque<>();
        for (int g = 0; g < 8; g++) {
            if (open(from, g)) {
                better(costs, todo, List.of(beside(from, g), g, steep(from, g) ? 1 : 0), n, boredCost(from, g));
            }
        }
        while (!todo.isEmpty()) {
            List<Integer> s = todo.remove();
            for (int g = 0; g < 8; g++) {
                int p = s.get(0);
                if (open(p, g) && bend(p, s.get(1), g)) {
                    better(costs, todo, List.of(beside(p, g), g, s.get(2) + (steep(p, g) ? 1 : 0)), n,
                            costs.get(s) + bendCost(s.get(1), g) + boredCost(p, g));
                }
            }
        }
        int least = -1;
        for (Map.Entry<List<Integer>, Integer> e : costs.entrySet()) {
            if (e.getKey().get(0) == to && (least == -1 || e.getValue() < least)) {
                least = e.getValue();
            }
        }
        return least;
    }

    private int boredCost(int p, int g) {
        return stepCost(p, g) + (steep(p, g) ? now.term[6] : 0);
    }

    private static void better(Map<List<Integer>, Integer> costs, Deque<List<Integer>> todo, List<Integer> s, int n,
            int cost) {
        if (s.get(2) <= n && (!costs.containsKey(s) || cost < costs.get(s))) {
            costs.put(s, cost);
            todo.add(s);
        }
    }

    private int cost(int from, int to) {
        Way way = from == to ? null : ways(from, 0)[to];
        return from == to ? 0 : way == null ? -1 : way.much;
    }

    int meet(int a, int b, int c, int what) {
        needPlaces(a, b, c);
        needWhat(what, 1);
        needNumber(a != b && b != c && a != c);
        int where = -1;
        int least = -1;
        Way[][] from = {ways(a, 0), ways(b, 0), ways(c, 0)};
        int[] starts = {a, b, c};
        for (int p = 0; p < now.height.length; p++) {
            int sum = 0;
            for (int k = 0; k < 3 && sum >= 0; k++) {
                if (p != starts[k]) {
                    sum = from[k][p] == null ? -1 : sum + from[k][p].much;
                }
            }
            if (sum >= 0 && (least == -1 || sum < least)) {
                least = sum;
                where = p;
            }
        }
        return what == 0 ? where : least;
    }

    int round() {
        List<Integer> places = tape;
        tape = new ArrayList<>();
        needNumber(places.size() >= 2 && places.size() <= 6 && new HashSet<>(places).size() == places.size());
        for (int p : places) {
            needNumber(p < now.height.length);
        }
        int[][] legs = new int[places.size()][places.size()];
        for (int i = 0; i < places.size(); i++) {
            Way[] all = ways(places.get(i), 0);
            for (int j = 0; j < places.size(); j++) {
                legs[i][j] = all[places.get(j)] == null ? -1 : all[places.get(j)].much;
            }
        }
        return tour(0, new HashSet<>(Set.of(0)), legs);
    }

    private static int tour(int at, Set<Integer> gone, int[][] legs) {
        if (gone.size() == legs.length) {
            return legs[at][0];
        }
        int least = -1;
        for (int next = 1; next < legs.length; next++) {
            if (!gone.contains(next) && legs[at][next] != -1) {
                Set<Integer> more = new HashSet<>(gone);
                more.add(next);
                int rest = tour(next, more, legs);
                if (rest != -1 && (least == -1 || rest + legs[at][next] < least)) {
                    least = rest + legs[at][next];
                }
            }
        }
        return least;
    }

    // ---- roads

    private Set<Long> pairs(int road) {
        Set<Long> pairs = new HashSet<>();
        List<Integer> places = now.roads.get(road);
        for (int k = 0; k + 1 < places.size(); k++) {
            pairs.add(pair(places.get(k), places.get(k + 1)));
        }
        return pairs;
    }

    /** The grading as a way: how much earth, and the offsets; null without one. */
    private Way grading(int road, int rule) {
        memo = new HashMap<>();
        Way best = null;
        for (int o = -now.term[7]; o <= now.term[7]; o++) {
            Way way = gradingFrom(road, rule, 0, o, o);
            if (way != null && (best == null || way.much < best.much)) {
                best = way;
            }
        }
        return best;
    }

    private Map<List<Integer>, Way> memo;

    private Way gradingFrom(int road, int rule, int k, int offset, int sum) {
        List<Integer> key = List.of(k, offset, sum);
        if (memo.containsKey(key)) {
            return memo.get(key);
        }
        List<Integer> places = now.roads.get(road);
        Way best = null;
        int own = earthOf(offset);
        if (k + 1 == places.size()) {
            best = Math.abs(sum) <= now.term[10] ? new Way(own, List.of(offset)) : null;
        } else {
            int p = places.get(k);
            int q = places.get(k + 1);
            for (int o = -now.term[7]; o <= now.term[7]; o++) {
                if (100 * Math.abs(now.height[p] + offset - now.height[q] - o) > rule * longOf(heading(p, q))) {
                    continue;
                }
                Way rest = gradingFrom(road, rule, k + 1, o, sum + o);
                if (rest != null && (best == null || rest.much + own < best.much)) {
                    List<Integer> all = new ArrayList<>(List.of(offset));
                    all.addAll(rest.places);
                    best = new Way(rest.much + own, all);
                }
            }
        }
        memo.put(key, best);
        return best;
    }

    private int earthOf(int offset) {
        return offset < 0 ? -offset * now.term[8] : offset * now.term[9];
    }

    int road(int road, int what) {
        needRoad(road);
        needWhat(what, 14);
        needBuilt(road);
        List<Integer> places = now.roads.get(road);
        List<Integer> offsets = now.offsets.get(road);
        int n = places.size();
        int[] heads = new int[n - 1];
        int[] levels = new int[n];
        for (int k = 0; k < n; k++) {
            levels[k] = now.height[places.get(k)] + offsets.get(k);
            if (k + 1 < n) {
                heads[k] = heading(places.get(k), places.get(k + 1));
            }
        }
        int[] sums = new int[15];
        Arrays.fill(sums, 5, 8, -1);
        sums[0] = n;
        int hairpins = 0;
        int straight = 0;
        double steepest = -1;
        for (int k = 0; k + 1 < n; k++) {
            int p = places.get(k);
            int rise = now.height[places.get(k + 1)] - now.height[p];
            sums[1] += longOf(heads[k]);
            sums[2] += Math.max(0, rise);
            sums[14] += Math.max(0, -rise);
            sums[3] += stepCost(p, heads[k]);
            if (!step(p, heads[k]) && sums[5] == -1) {
                sums[5] = k;
            }
            double much = Math.abs(levels[k] - levels[k + 1]) / (double) longOf(heads[k]);
            if (much > steepest + 1e-9) {
                steepest = much;
                sums[7] = k;
            }
            straight = k > 0 && heads[k] == heads[k - 1] ? straight + 1 : 1;
            sums[13] = Math.max(sums[13], straight);
            if (k > 0) {
                sums[3] += bendCost(heads[k - 1], heads[k]);
                hairpins += eighths(heads[k - 1], heads[k]) > now.term[1] ? 1 : 0;
                if (!bend(p, heads[k - 1], heads[k]) && sums[6] == -1) {
                    sums[6] = k;
                }
            }
        }
        sums[4] = hairpins;
        for (int o : offsets) {
            sums[8] += earthOf(o);
            sums[9] += o;
        }
        sums[10] = -1;
        for (int rule = 0; rule <= 99 && what == 10 && sums[10] == -1; rule++) {
            sums[10] = grading(road, rule) == null ? -1 : rule;
        }
        sums[11] = Arrays.stream(levels).max().getAsInt();
        sums[12] = Arrays.stream(levels).min().getAsInt();
        return sums[what];
    }

    int at(int road, int k, boolean offset) {
        needRoad(road);
        needBuilt(road);
        List<Integer> row = offset ? now.offsets.get(road) : now.roads.get(road);
        return k < 0 || k >= row.size() ? (offset ? 100 : -1) : row.get(k);
    }

    int earth(int road, int rule) {
        needRoad(road);
        needNumber(rule >= 0 && rule <= 99);
        needBuilt(road);
        Way grading = grading(road, rule);
        return grading == null ? -1 : grading.much;
    }

    private int run(int p) {
        int lowest = -1;
        for (int g = 0; g < 8; g++) {
            int q = beside(p, g);
            if (q != -1 && now.height[q] < now.height[p] && (lowest == -1 || now.height[q] < now.height[lowest])) {
                lowest = q;
            }
        }
        return lowest;
    }

    private int catchOf(int p) {
        int many = 0;
        for (int q = 0; q < now.height.length; q++) {
            int r = q;
            while (r != -1 && r != p) {
                r = run(r);
            }
            many += r == p ? 1 : 0;
        }
        return many;
    }

    private boolean drains(int p, IntPredicate low, Set<Integer> seen) {
        if (!low.test(p) || !seen.add(p)) {
            return false;
        }
        int row = p / now.wide;
        int column = p % now.wide;
        if (row == 0 || column == 0 || row == now.deep - 1 || column == now.wide - 1) {
            return true;
        }
        for (int g = 0; g < 8; g++) {
            if (drains(beside(p, g), low, seen)) {
                return true;
            }
        }
        return false;
    }

    int water(int p, int what) {
        needPlaces(p);
        needWhat(what, 2);
        if (what == 0) {
            return run(p);
        }
        if (what == 1) {
            return catchOf(p);
        }
        for (int most = 0; most <= 99; most++) {
            int bound = most;
            if (drains(p, q -> now.height[q] <= bound, new HashSet<>())) {
                return most;
            }
        }
        throw new AssertionError("no edge");
    }

    int bridges(int road, int n) {
        needRoad(road);
        needNumber(n >= 1 && n <= 81);
        needBuilt(road);
        int many = 0;
        for (int p : new HashSet<>(now.roads.get(road))) {
            many += catchOf(p) >= n ? 1 : 0;
        }
        return many;
    }

    int joins(int p, int road, int what) {
        needPlaces(p);
        needRoad(road);
        needWhat(what, 1);
        needBuilt(road);
        int where = -1;
        int least = -1;
        for (int q : now.roads.get(road)) {
            int cost = cost(p, q);
            if (cost != -1 && (least == -1 || cost < least)) {
                least = cost;
                where = q;
            }
        }
        return what == 0 ? where : least;
    }

    int spare(int from, int to, int what) {
        needPlaces(from, to);
        needWhat(what, 1);
        needNumber(from != to);
        Way way = ways(from, 0)[to];
        if (way == null) {
            return -1;
        }
        int most = -2;
        int where = -1;
        for (int k = 0; k + 1 < way.places.size(); k++) {
            blocked.add(pair(way.places.get(k), way.places.get(k + 1)));
            Way other = ways(from, 0)[to];
            blocked.clear();
            int much = other == null ? Integer.MAX_VALUE : other.much;
            if (much > most) {
                most = much;
                where = k;
            }
        }
        return what == 0 ? where : most == Integer.MAX_VALUE ? -1 : most;
    }

    int stages(int road, int n) {
        needRoad(road);
        needNumber(n >= 1 && n <= 6);
        needBuilt(road);
        List<Integer> places = now.roads.get(road);
        List<Integer> longs = new ArrayList<>();
        for (int k = 0; k + 1 < places.size(); k++) {
            longs.add(longOf(heading(places.get(k), places.get(k + 1))));
        }
        return longs.size() < n ? -1 : split(longs, 0, n);
    }

    private int split(List<Integer> longs, int from, int n) {
        if (n == 1) {
            return longs.subList(from, longs.size()).stream().mapToInt(x -> x).sum();
        }
        int least = Integer.MAX_VALUE;
        int part = 0;
        for (int k = from; longs.size() - k - 1 >= n - 1; k++) {
            part += longs.get(k);
            if (part >= least) {
                break;
            }
            least = Math.min(least, Math.max(part, split(longs, k + 1, n - 1)));
        }
        return least;
    }

    int common(int road, int other) {
        needRoad(road);
        needRoad(other);
        needNumber(road != other);
        needBuilt(road);
        needBuilt(other);
        Set<Long> pairs = pairs(road);
        pairs.retainAll(pairs(other));
        return pairs.size();
    }

    void image() {
        image = now.copy();
    }

    boolean back() {
        if (image == null) {
            return false;
        }
        now = image.copy();
        past.clear();
        return true;
    }

    int count(int what) {
        int many = 0;
        switch (what) {
            case 0: return now.wide;
            case 1: return now.deep;
            case 2:
                for (boolean is : now.wet) {
                    many += is ? 1 : 0;
                }
                return many;
            case 3:
                for (int r = 0; r < 4; r++) {
                    many += now.roads.get(r) != null ? 1 << r : 0;
                }
                return many;
            case 4: return past.size();
            case 5:
                for (int p = 0; p < now.height.length; p++) {
                    many += run(p) == -1 ? 1 : 0;
                }
                return many;
            default: return -1;
        }
    }
}
