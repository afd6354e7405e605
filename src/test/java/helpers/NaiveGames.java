import java.util.ArrayDeque;
import java.util.ArrayList;
import java.util.Arrays;
import java.util.HashMap;
import java.util.List;
import java.util.Map;
import java.util.TreeMap;
import java.util.TreeSet;

/**
 * The document once more, word by word and as slow as its words are: games are trees, orders are asked by
 * their definition, wins by playing every line. What the program answers is compared with this.
 */
public final class NaiveGames {
    static final int LOW = -1100000000;
    static final int BEYOND = LOW - 1;
    static final int NONE = LOW - 2;
    static final int STATE = LOW - 3;
    static final int FULL = LOW - 4;
    static final int KIND = LOW - 5;
    static final int MISSING = LOW - 6;

    /** A game; canonical ones are kept once by their words. */
    static final class G implements Comparable<G> {
        final List<G> left;
        final List<G> right;
        String words;

        G(List<G> left, List<G> right) {
            this.left = left;
            this.right = right;
        }

        List<G> options(int who) {
            return who == 0 ? left : right;
        }

        @Override
        public int compareTo(G other) {
            int byLength = Integer.compare(words.length(), other.words.length());
            return byLength != 0 ? byLength : words.compareTo(other.words);
        }

        @Override
        public String toString() {
            return words;
        }
    }

    private static final Map<String, G> KNOWN = new HashMap<>();
    private static final Map<String, Boolean> AT_MOST = new HashMap<>();
    private static final Map<String, G> SUMS = new HashMap<>();
    private static final Map<String, G> WEIGHTS = new HashMap<>();
    static final G ZERO = canonical(List.of(), List.of());
    static final G STAR = canonical(List.of(ZERO), List.of(ZERO));
    static final G UP = canonical(List.of(ZERO), List.of(STAR));
    static final G FAR = star(10);
    private static final List<List<G>> BORN = allBorn();

    static boolean atMost(G g, G h) {
        if (g.words == null || h.words == null) {
            return atMostByOptions(g, h);
        }
        String key = g.words + " " + h.words;
        Boolean known = AT_MOST.get(key);
        if (known == null) {
            known = atMostByOptions(g, h);
            AT_MOST.put(key, known);
        }
        return known;
    }

    private static boolean atMostByOptions(G g, G h) {
        for (G option : g.left) {
            if (atMost(h, option)) {
                return false;
            }
        }
        for (G option : h.right) {
            if (atMost(option, g)) {
                return false;
            }
        }
        return true;
    }

    static int compare(G g, G h) {
        boolean under = atMost(g, h);
        boolean over = atMost(h, g);
        return under ? over ? 0 : -1 : over ? 1 : 2;
    }

    static G canonical(List<G> left, List<G> right) {
        List<G> lefts = new ArrayList<>(left);
        List<G> rights = new ArrayList<>(right);
        G raw = new G(lefts, rights);
        boolean changed = true;
        while (changed) {
            changed = bypassOne(raw, lefts, 0) || bypassOne(raw, rights, 1)
                    || dropOne(lefts, 0) || dropOne(rights, 1);
        }
        G game = new G(sorted(lefts), sorted(rights));
        game.words = spell(game);
        G known = KNOWN.putIfAbsent(game.words, game);
        return known == null ? game : known;
    }

    private static boolean bypassOne(G raw, List<G> options, int who) {
        for (G option : options) {
            for (G answer : option.options(1 - who)) {
                if (who == 0 ? atMost(answer, raw) : atMost(raw, answer)) {
                    options.remove(option);
                    options.addAll(answer.options(who));
                    return true;
                }
            }
        }
        return false;
    }

    private static boolean dropOne(List<G> options, int who) {
        for (int i = 0; i < options.size(); i++) {
            for (int k = 0; k < options.size(); k++) {
                G one = options.get(i);
                G other = options.get(k);
                if (i != k && (who == 0 ? atMost(one, other) : atMost(other, one))) {
                    options.remove(i);
                    return true;
                }
            }
        }
        return false;
    }

    private static List<G> sorted(List<G> options) {
        return List.copyOf(new TreeSet<>(options));
    }

    private static String spell(G g) {
        Integer value = integerBy(g);
        if (value != null) {
            return String.valueOf(value);
        }
        int heap = heapBy(g);
        if (heap > 0) {
            return heap == 1 ? "*" : "*" + heap;
        }
        return "{" + row(g.left) + "|" + row(g.right) + "}";
    }

    private static String row(List<G> options) {
        StringBuilder text = new StringBuilder();
        for (G option : options) {
            text.append(text.length() == 0 ? "" : ",").append(option.words);
        }
        return text.toString();
    }

    /** By the words of its option: n after n - 1. */
    static Integer integerBy(G g) {
        if (g.left.isEmpty() && g.right.isEmpty()) {
            return 0;
        }
        if (g.right.isEmpty() && g.left.size() == 1 && g.left.get(0).words.matches("[0-9]+")) {
            return Integer.parseInt(g.left.get(0).words) + 1;
        }
        if (g.left.isEmpty() && g.right.size() == 1 && g.right.get(0).words.matches("0|-[0-9]+")) {
            return Integer.parseInt(g.right.get(0).words) - 1;
        }
        return null;
    }

    static int heapBy(G g) {
        TreeSet<String> due = new TreeSet<>();
        for (int n = 0; n < g.left.size(); n++) {
            due.add(n == 0 ? "0" : n == 1 ? "*" : "*" + n);
        }
        TreeSet<String> lefts = new TreeSet<>();
        TreeSet<String> rights = new TreeSet<>();
        g.left.forEach(option -> lefts.add(option.words));
        g.right.forEach(option -> rights.add(option.words));
        return lefts.equals(due) && rights.equals(due) ? due.size() : -1;
    }

    static G star(int n) {
        List<G> lower = new ArrayList<>();
        for (int k = 0; k < n; k++) {
            lower.add(star(k));
        }
        return canonical(lower, lower);
    }

    static G number(int n) {
        if (n == 0) {
            return ZERO;
        }
        return n > 0 ? canonical(List.of(number(n - 1)), List.of()) : canonical(List.of(), List.of(number(n + 1)));
    }

    static G sum(G g, G h) {
        String key = g.words + " " + h.words;
        G known = SUMS.get(key);
        if (known == null) {
            List<List<G>> both = List.of(new ArrayList<>(), new ArrayList<>());
            for (int who = 0; who < 2; who++) {
                for (G option : g.options(who)) {
                    both.get(who).add(sum(option, h));
                }
                for (G option : h.options(who)) {
                    both.get(who).add(sum(g, option));
                }
            }
            known = canonical(both.get(0), both.get(1));
            SUMS.put(key, known);
        }
        return known;
    }

    static G negative(G g) {
        List<G> left = new ArrayList<>();
        List<G> right = new ArrayList<>();
        g.right.forEach(option -> left.add(negative(option)));
        g.left.forEach(option -> right.add(negative(option)));
        return canonical(left, right);
    }

    static TreeSet<G> followers(G g) {
        TreeSet<G> all = new TreeSet<>();
        ArrayDeque<G> open = new ArrayDeque<>(List.of(g));
        while (!open.isEmpty()) {
            G next = open.pop();
            if (all.add(next)) {
                open.addAll(next.left);
                open.addAll(next.right);
            }
        }
        return all;
    }

    static int birthday(G g) {
        int day = 0;
        for (int who = 0; who < 2; who++) {
            for (G option : g.options(who)) {
                day = Math.max(day, 1 + birthday(option));
            }
        }
        return day;
    }

    static boolean small(G g) {
        if (g == ZERO) {
            return true;
        }
        if (g.left.isEmpty() || g.right.isEmpty()) {
            return false;
        }
        return g.left.stream().allMatch(NaiveGames::small) && g.right.stream().allMatch(NaiveGames::small);
    }

    static boolean fits(G g) {
        return followers(g).size() <= 10 && g.words.length() <= 100;
    }

    static G weightOf(G g) {
        if (g == ZERO) {
            return ZERO;
        }
        G known = WEIGHTS.get(g.words);
        if (known != null) {
            return known;
        }
        List<G> left = new ArrayList<>();
        List<G> right = new ArrayList<>();
        g.left.forEach(option -> left.add(sum(number(-2), weightOf(option))));
        g.right.forEach(option -> right.add(sum(number(2), weightOf(option))));
        G found = canonical(left, right);
        if (integerBy(found) != null) {
            int n = 0;
            int far = compare(g, FAR);
            if (far == 1) {
                for (n = 30; barredAbove(right, n); n--) {
                    continue;
                }
            } else if (far == -1) {
                for (n = -30; barredBelow(left, n); n++) {
                    continue;
                }
            }
            found = number(n);
        }
        WEIGHTS.put(g.words, found);
        return found;
    }

    private static boolean barredAbove(List<G> options, int n) {
        return options.stream().anyMatch(option -> atMost(option, number(n)));
    }

    private static boolean barredBelow(List<G> options, int n) {
        return options.stream().anyMatch(option -> atMost(number(n), option));
    }

    private static List<List<G>> allBorn() {
        List<List<G>> days = new ArrayList<>();
        days.add(List.of(ZERO));
        for (int day = 1; day <= 3; day++) {
            List<G> ahead = days.get(day - 1);
            TreeSet<G> all = new TreeSet<>(ahead);
            for (int left = 1; left < 1 << ahead.size(); left++) {
                for (int right = 1; right < 1 << ahead.size(); right++) {
                    all.add(canonical(subset(ahead, left), subset(ahead, right)));
                }
            }
            days.add(List.copyOf(all));
        }
        return days;
    }

    private static List<G> subset(List<G> games, int set) {
        List<G> some = new ArrayList<>();
        for (int i = 0; i < games.size(); i++) {
            if ((set >> i & 1) != 0) {
                some.add(games.get(i));
            }
        }
        return some;
    }

    private final G[] slots = new G[8];
    private final ArrayDeque<Object[]> history = new ArrayDeque<>();
    private G[] kept;
    private String tape = "";
    private final Object[] sheets = new Object[4];
    private final Map<Integer, Integer> failures = new TreeMap<>();

    public NaiveGames() {
        Arrays.fill(slots, ZERO);
    }

    private int fail(int error) {
        failures.merge(LOW - error, 1, Integer::sum);
        return error;
    }

    private static boolean outside(int n, int least, int most) {
        return n < least || n > most;
    }

    private static boolean noSlot(int... all) {
        return Arrays.stream(all).anyMatch(s -> outside(s, 0, 7));
    }

    private int hold(int s, G g) {
        if (!fits(g)) {
            return fail(FULL);
        }
        history.push(new Object[] {s, slots[s]});
        if (history.size() > 8) {
            history.removeLast();
        }
        slots[s] = g;
        return followers(g).size();
    }

    public int slot(int s, int what) {
        if (noSlot(s) || outside(what, 0, 8)) {
            return fail(BEYOND);
        }
        G g = slots[s];
        int[] all = {followers(g).size(), birthday(g), g.left.size(), g.right.size(), compare(g, ZERO),
            small(g) ? 1 : 0, g.words.length(), heapBy(g), integerBy(g) != null ? 1 : 0};
        return all[what];
    }

    public int integer(int s) {
        if (noSlot(s)) {
            return fail(BEYOND);
        }
        Integer n = integerBy(slots[s]);
        return n == null ? fail(NONE) : n;
    }

    public int word(int s, int i) {
        if (noSlot(s)) {
            return fail(BEYOND);
        }
        String words = slots[s].words;
        return outside(i, 0, words.length() - 1) ? fail(NONE) : words.charAt(i);
    }

    public int whole(int s, int n) {
        return noSlot(s) || outside(n, -9, 9) ? fail(BEYOND) : hold(s, number(n));
    }

    public int heap(int s, int n) {
        return noSlot(s) || outside(n, 0, 9) ? fail(BEYOND) : hold(s, star(n));
    }

    public int ups(int s, int n, int m) {
        if (noSlot(s) || outside(n, -4, 4) || outside(m, 0, 5)) {
            return fail(BEYOND);
        }
        G g = star(m);
        for (int k = 0; k < Math.abs(n); k++) {
            g = sum(g, n > 0 ? UP : negative(UP));
        }
        return hold(s, g);
    }

    private static G flowerOf(int stem, int blue, int red) {
        List<G> left = new ArrayList<>();
        List<G> right = new ArrayList<>();
        for (int n = 0; n < stem; n++) {
            left.add(star(n));
            right.add(star(n));
        }
        if (blue > 0) {
            left.add(flowerOf(stem, blue - 1, red));
        }
        if (red > 0) {
            right.add(flowerOf(stem, blue, red - 1));
        }
        return canonical(left, right);
    }

    public int flower(int s, int stem, int blue, int red) {
        if (noSlot(s) || outside(stem, 1, 4) || outside(blue, 0, 3) || outside(red, 0, 3)) {
            return fail(BEYOND);
        }
        return hold(s, flowerOf(stem, blue, red));
    }

    public int made(int s, int left, int right) {
        if (noSlot(s) || outside(left, 0, 255) || outside(right, 0, 255)) {
            return fail(BEYOND);
        }
        return hold(s, canonical(subset(Arrays.asList(slots), left), subset(Arrays.asList(slots), right)));
    }

    public int plus(int s, int a, int b) {
        return noSlot(s, a, b) ? fail(BEYOND) : hold(s, sum(slots[a], slots[b]));
    }

    public int minus(int s, int a) {
        return noSlot(s, a) ? fail(BEYOND) : hold(s, negative(slots[a]));
    }

    public int option(int s, int a, int who, int i) {
        if (noSlot(s, a) || outside(who, 0, 1)) {
            return fail(BEYOND);
        }
        List<G> options = slots[a].options(who);
        return outside(i, 0, options.size() - 1) ? fail(NONE) : hold(s, options.get(i));
    }

    public int move(int s, int a) {
        return noSlot(s, a) ? fail(BEYOND) : hold(s, slots[a]);
    }

    public int undo() {
        if (history.isEmpty()) {
            return fail(NONE);
        }
        Object[] latest = history.pop();
        slots[(Integer) latest[0]] = (G) latest[1];
        return history.size();
    }

    public int order(int a, int b) {
        return noSlot(a, b) ? fail(BEYOND) : compare(slots[a], slots[b]);
    }

    public int outcome(int a, int b) {
        return noSlot(a, b) ? fail(BEYOND) : outcomeByPlay(slots[a], slots[b]);
    }

    private static int outcomeByPlay(G g, G h) {
        boolean left = wins(g, h, 0);
        boolean right = wins(g, h, 1);
        return left ? right ? 2 : 1 : right ? -1 : 0;
    }

    private static final Map<String, Boolean> WINS = new HashMap<>();

    /** Whether one wins who moves first. */
    private static boolean wins(G g, G h, int who) {
        String key = g.words + " " + h.words + " " + who;
        Boolean known = WINS.get(key);
        if (known == null) {
            known = g.options(who).stream().anyMatch(option -> !wins(option, h, 1 - who))
                    || h.options(who).stream().anyMatch(option -> !wins(g, option, 1 - who));
            WINS.put(key, known);
        }
        return known;
    }

    public int far(int a) {
        return noSlot(a) ? fail(BEYOND) : compare(slots[a], FAR);
    }

    public int weight(int s, int a) {
        if (noSlot(s, a)) {
            return fail(BEYOND);
        }
        if (!small(slots[a])) {
            return fail(STATE);
        }
        G found = weightOf(slots[a]);
        int width = hold(s, found);
        return width < 0 ? width : integerBy(found) != null ? 1 : 0;
    }

    public int atomic(int a) {
        if (noSlot(a)) {
            return fail(BEYOND);
        }
        if (!small(slots[a])) {
            return fail(STATE);
        }
        Integer n = integerBy(weightOf(slots[a]));
        return n == null ? fail(NONE) : n;
    }

    public int ahead(int a) {
        if (noSlot(a)) {
            return fail(BEYOND);
        }
        if (!small(slots[a])) {
            return fail(STATE);
        }
        Integer n = integerBy(weightOf(slots[a]));
        return n == null ? 0 : n >= 2 ? 1 : n <= -2 ? -1 : 0;
    }

    public int garden(int set) {
        if (outside(set, 0, 255)) {
            return fail(BEYOND);
        }
        List<G> all = subset(Arrays.asList(slots), set);
        if (!all.stream().allMatch(NaiveGames::small)) {
            return fail(STATE);
        }
        if (all.stream().anyMatch(g -> integerBy(weightOf(g)) == null)) {
            return fail(NONE);
        }
        return all.stream().mapToInt(g -> integerBy(weightOf(g))).sum();
    }

    /** Which game and which option, or null. */
    private static int[] replyOf(G g, G h, int who) {
        for (int i = 0; i < g.options(who).size(); i++) {
            if (!wins(g.options(who).get(i), h, 1 - who)) {
                return new int[] {0, i};
            }
        }
        for (int i = 0; i < h.options(who).size(); i++) {
            if (!wins(g, h.options(who).get(i), 1 - who)) {
                return new int[] {1, i};
            }
        }
        return null;
    }

    public int reply(int a, int b, int who, int what) {
        if (noSlot(a, b) || outside(who, 0, 1) || outside(what, 0, 1)) {
            return fail(BEYOND);
        }
        int[] found = replyOf(slots[a], slots[b], who);
        return found == null ? fail(NONE) : found[what];
    }

    public int fight(int a, int b, int who, int what) {
        if (noSlot(a, b) || outside(who, 0, 1) || outside(what, 0, 1)) {
            return fail(BEYOND);
        }
        return fought(slots[a], slots[b], who, 0)[what];
    }

    private static int[] fought(G g, G h, int who, int moves) {
        int[] next = replyOf(g, h, who);
        if (next == null && !g.options(who).isEmpty()) {
            next = new int[] {0, 0};
        }
        if (next == null && !h.options(who).isEmpty()) {
            next = new int[] {1, 0};
        }
        if (next == null) {
            return new int[] {who, moves};
        }
        return next[0] == 0 ? fought(g.options(who).get(next[1]), h, 1 - who, moves + 1)
                : fought(g, h.options(who).get(next[1]), 1 - who, moves + 1);
    }

    public int plays(int sheet, int a, int what) {
        if (outside(sheet, 0, 3) || noSlot(a) || outside(what, 0, 1)) {
            return fail(BEYOND);
        }
        if (sheets[sheet] == null) {
            return fail(MISSING);
        }
        G g = slots[a];
        int done = 0;
        while (done < size(sheet) && !outside(number(sheet, done), 0, g.options(done % 2).size() - 1)) {
            g = g.options(done % 2).get(number(sheet, done));
            done++;
        }
        return what == 0 ? done : compare(g, ZERO);
    }

    public int born(int day, int i, int s) {
        if (outside(day, 0, 3) || i < -1 || i >= 0 && noSlot(s)) {
            return fail(BEYOND);
        }
        List<G> all = BORN.get(day);
        return i < 0 ? all.size() : i >= all.size() ? fail(NONE) : hold(s, all.get(i));
    }

    public int place(int day, int s) {
        if (outside(day, 0, 3) || noSlot(s)) {
            return fail(BEYOND);
        }
        int found = BORN.get(day).indexOf(slots[s]);
        return found < 0 ? fail(NONE) : found;
    }

    public int feed(long word, int n) {
        if (outside(n, 1, 8)) {
            return fail(BEYOND);
        }
        if (tape.length() + n > 120) {
            return fail(FULL);
        }
        for (int i = 0; i < n; i++) {
            tape += (char) (word >>> 8 * i & 255);
        }
        return tape.length();
    }

    public int game(int s) {
        if (noSlot(s)) {
            return fail(BEYOND);
        }
        String text = tape;
        tape = "";
        int fault = faultOf(text);
        if (fault >= 0) {
            return -10 - fault;
        }
        NaiveText read = new NaiveText(text);
        G g = read.sum();
        return read.full ? fail(FULL) : hold(s, g);
    }

    /** A text goes on as long as some text begins so: told by a stack of what is open. */
    private static int faultOf(String text) {
        StringBuilder open = new StringBuilder();
        boolean unitDue = true;
        boolean closeMay = false;
        int i = 0;
        while (i < text.length()) {
            char c = text.charAt(i);
            char top = open.length() == 0 ? '.' : open.charAt(open.length() - 1);
            if (unitDue && closeMay && (c == '|' && top == 'L' || c == '}' && top == 'R')) {
                unitDue = false;
            }
            closeMay = false;
            if (unitDue) {
                if (c == '-' || c == '{') {
                    if (open.length() == 5) {
                        return i;
                    }
                    open.append(c == '-' ? '-' : 'L');
                    closeMay = c == '{';
                    i++;
                    continue;
                }
                if (c != '*' && c != '^' && !Character.isDigit(c) || c > 127) {
                    return i;
                }
                int from = c == '*' ? i + 1 : i;
                int to = from;
                while (c != '^' && to < text.length() && to < from + 2 && "0123456789".indexOf(text.charAt(to)) >= 0) {
                    to++;
                }
                if (to > from && Integer.parseInt(text.substring(from, to)) > 12) {
                    return from;
                }
                i = Math.max(to, i + 1);
                unitDue = false;
            } else if (c == '+' || c == ',' && (top == 'L' || top == 'R')) {
                unitDue = true;
                i++;
            } else if (c == '|' && top == 'L') {
                open.setCharAt(open.length() - 1, 'R');
                unitDue = true;
                closeMay = true;
                i++;
            } else if (c == '}' && top == 'R') {
                open.setLength(open.length() - 1);
                i++;
            } else {
                return i;
            }
            while (!unitDue && open.length() > 0 && open.charAt(open.length() - 1) == '-') {
                open.setLength(open.length() - 1);
            }
        }
        return unitDue || open.length() > 0 ? text.length() : -1;
    }

    /** Reads a text without a fault. */
    private static final class NaiveText {
        private final String text;
        private int at;
        private boolean full;

        NaiveText(String text) {
            this.text = text;
        }

        private G seen(G g) {
            full |= !fits(g);
            return full ? ZERO : g;
        }

        private boolean skip(char sign) {
            boolean there = at < text.length() && text.charAt(at) == sign;
            at += there ? 1 : 0;
            return there;
        }

        G sum() {
            G g = unit();
            while (skip('+')) {
                g = seen(NaiveGames.sum(g, unit()));
            }
            return g;
        }

        private int digits(int otherwise) {
            int from = at;
            while (at < text.length() && Character.isDigit(text.charAt(at))) {
                at++;
            }
            return at == from ? otherwise : Integer.parseInt(text.substring(from, at));
        }

        private G unit() {
            if (skip('^')) {
                return UP;
            }
            if (skip('-')) {
                return seen(negative(unit()));
            }
            if (skip('*')) {
                return seen(star(digits(1)));
            }
            if (skip('{')) {
                List<G> left = options('|');
                List<G> right = options('}');
                return seen(canonical(left, right));
            }
            return seen(NaiveGames.number(digits(0)));
        }

        private List<G> options(char closing) {
            List<G> all = new ArrayList<>();
            while (!skip(closing)) {
                skip(',');
                all.add(sum());
            }
            return all;
        }
    }

    public int sheet(int sheet, int bits, int n) {
        if (outside(sheet, 0, 3) || bits != 0 && bits != 8 && bits != 16 && bits != 32) {
            return fail(BEYOND);
        }
        if (bits == 0) {
            sheets[sheet] = null;
            return 1;
        }
        if (n < 0) {
            return fail(STATE);
        }
        if (n > 24) {
            return fail(BEYOND);
        }
        sheets[sheet] = bits == 8 ? new byte[n] : bits == 16 ? new short[n] : (Object) new int[n];
        return 1;
    }

    private int size(int sheet) {
        Object row = sheets[sheet];
        return row instanceof byte[] bytes ? bytes.length : row instanceof short[] shorts ? shorts.length
                : ((int[]) row).length;
    }

    private int number(int sheet, int i) {
        Object row = sheets[sheet];
        return row instanceof byte[] bytes ? bytes[i] : row instanceof short[] shorts ? shorts[i] : ((int[]) row)[i];
    }

    private int numberError(int sheet, int i) {
        if (outside(sheet, 0, 3)) {
            return BEYOND;
        }
        if (sheets[sheet] == null) {
            return MISSING;
        }
        return outside(i, 0, size(sheet) - 1) ? BEYOND : 0;
    }

    public int put(int sheet, int i, int v) {
        int error = numberError(sheet, i);
        if (error != 0) {
            return fail(error);
        }
        Object row = sheets[sheet];
        if (row instanceof byte[] bytes) {
            bytes[i] = (byte) v;
        } else if (row instanceof short[] shorts) {
            shorts[i] = (short) v;
        } else {
            ((int[]) row)[i] = v;
        }
        return 1;
    }

    public int at(int sheet, int i) {
        int error = numberError(sheet, i);
        return error != 0 ? fail(error) : number(sheet, i);
    }

    public int copy(int sheet, int i, int other, int j, int n) {
        if (outside(sheet, 0, 3) || outside(other, 0, 3)) {
            return fail(BEYOND);
        }
        if (sheets[sheet] == null || sheets[other] == null) {
            return fail(MISSING);
        }
        if (sheets[sheet].getClass() != sheets[other].getClass()) {
            return fail(KIND);
        }
        if (n < 0 || i < 0 || j < 0 || (long) i + n > size(sheet) || (long) j + n > size(other)) {
            return fail(BEYOND);
        }
        System.arraycopy(sheets[sheet], i, sheets[other], j, n);
        return n;
    }

    public int image() {
        kept = slots.clone();
        return count(1);
    }

    public int restore() {
        if (kept == null) {
            return fail(NONE);
        }
        System.arraycopy(kept, 0, slots, 0, 8);
        history.clear();
        return count(1);
    }

    public int count(int what) {
        switch (what) {
            case 0: return (int) Arrays.stream(slots).filter(NaiveGames::small).count();
            case 1: return Arrays.stream(slots).mapToInt(g -> followers(g).size()).sum();
            case 2: return tape.length();
            case 3: return history.size();
            case 4: return (int) Arrays.stream(slots).distinct().count();
            case 5: return (int) Arrays.stream(sheets).filter(row -> row != null).count();
            default: return fail(BEYOND);
        }
    }

    public int told(int k) {
        return outside(k, 1, 6) ? fail(BEYOND) : failures.getOrDefault(k, 0);
    }

    /** What the slots hold, for a report. */
    @Override
    public String toString() {
        return Arrays.toString(slots);
    }
}
