import java.util.Arrays;

/** Games where both can move or neither, kept in slots: made, compared, added, weighed, fought, told. */
public final class UppityGames {
    private static final int LOW = -1100000000;
    private static final int BEYOND = LOW - 1;
    private static final int NONE = LOW - 2;
    private static final int STATE = LOW - 3;
    private static final int FULL = LOW - 4;
    private static final int KIND = LOW - 5;
    private static final int MISSING = LOW - 6;
    private static final int ERRORS = 6;
    private static final int SLOTS = 8;
    private static final int SETS = 256;
    private static final int MOST_WIDTH = 10;
    private static final int MOST_WORDS = 100;
    private static final int FAR_HEAP = 10;
    private static final int FAULT_FROM = -10;

    private final Yard yard;
    private final Scribe scribe;
    private final Maker maker;
    private final Duel duel;
    private final Weigher weigher;
    private final Nursery nursery;
    private final Tape tape;
    private final Shelf shelf;
    private final Sheets sheets;
    private final Game far;
    private final Game[] picked;
    private final int[] failures;

    public UppityGames() {
        yard = new Yard();
        scribe = new Scribe(yard);
        maker = new Maker(yard, scribe);
        far = Game.farHeap();
        duel = new Duel();
        weigher = new Weigher(yard, duel, far);
        nursery = new Nursery(yard, scribe);
        tape = new Tape(maker);
        shelf = new Shelf(Game.zero());
        sheets = new Sheets();
        picked = new Game[2 * SLOTS];
        failures = new int[ERRORS + 1];
    }

    // ---- slots

    public int slot(int s, int what) {
        if (!isSlot(s)) {
            return fail(BEYOND);
        }
        Game game = shelf.held(s);
        switch (what) {
            case 0: return game.width();
            case 1: return game.day;
            case 2: return Integer.bitCount(game.options(game.top(), 0));
            case 3: return Integer.bitCount(game.options(game.top(), 1));
            case 4: return sumOutcome(game, shelf.zero());
            case 5: return game.isSmall() ? 1 : 0;
            case 6: return game.words.length;
            case 7: return game.heapNumber;
            case 8: return game.isInteger() ? 1 : 0;
            default: return fail(BEYOND);
        }
    }

    public int integer(int s) {
        if (!isSlot(s)) {
            return fail(BEYOND);
        }
        Game game = shelf.held(s);
        return game.isInteger() ? game.value() : fail(NONE);
    }

    public int word(int s, int i) {
        if (!isSlot(s)) {
            return fail(BEYOND);
        }
        byte[] words = shelf.held(s).words;
        return i >= 0 && i < words.length ? words[i] : fail(NONE);
    }

    public int whole(int s, int n) {
        if (!isSlot(s) || !isWithin(n, -9, 9)) {
            return fail(BEYOND);
        }
        return settle(s, maker.integerOf(n));
    }

    public int heap(int s, int n) {
        if (!isSlot(s) || !isWithin(n, 0, 9)) {
            return fail(BEYOND);
        }
        return settle(s, maker.heapOf(n));
    }

    public int ups(int s, int n, int m) {
        if (!isSlot(s) || !isWithin(n, -4, 4) || !isWithin(m, 0, 5)) {
            return fail(BEYOND);
        }
        return settle(s, maker.upsAndHeap(n, m));
    }

    public int flower(int s, int stem, int blue, int red) {
        if (!isSlot(s) || !isWithin(stem, 1, 4) || !isWithin(blue, 0, 3) || !isWithin(red, 0, 3)) {
            return fail(BEYOND);
        }
        return settle(s, maker.flowerOf(stem, blue, red));
    }

    public int made(int s, int left, int right) {
        if (!isSlot(s) || !isSet(left) || !isSet(right)) {
            return fail(BEYOND);
        }
        int middle = pick(left, 0);
        int end = pick(right, middle);
        return settle(s, maker.gameOf(picked, 0, middle, end));
    }

    public int plus(int s, int a, int b) {
        if (!isSlot(s) || !isSlot(a) || !isSlot(b)) {
            return fail(BEYOND);
        }
        return settle(s, maker.sumOf(shelf.held(a), shelf.held(b)));
    }

    public int minus(int s, int a) {
        if (!isSlot(s) || !isSlot(a)) {
            return fail(BEYOND);
        }
        return settle(s, maker.negativeOf(shelf.held(a)));
    }

    public int option(int s, int a, int who, int i) {
        if (!isSlot(s) || !isSlot(a) || !isBit(who)) {
            return fail(BEYOND);
        }
        Game game = shelf.held(a);
        int follower = game.numbered(game.top(), who, i);
        if (follower < 0) {
            return fail(NONE);
        }
        return settle(s, maker.followerOf(game, follower));
    }

    public int move(int s, int a) {
        if (!isSlot(s) || !isSlot(a)) {
            return fail(BEYOND);
        }
        return settle(s, shelf.held(a));
    }

    public int undo() {
        int left = shelf.takeBack();
        return left < 0 ? fail(NONE) : left;
    }

    // ---- order, weights

    public int order(int a, int b) {
        if (!isSlot(a) || !isSlot(b)) {
            return fail(BEYOND);
        }
        Game first = shelf.held(a);
        Game second = shelf.held(b);
        duel.fill(first, second, true);
        return duel.verdict(first.top(), second.top());
    }

    public int outcome(int a, int b) {
        if (!isSlot(a) || !isSlot(b)) {
            return fail(BEYOND);
        }
        return sumOutcome(shelf.held(a), shelf.held(b));
    }

    public int far(int a) {
        if (!isSlot(a)) {
            return fail(BEYOND);
        }
        Game game = shelf.held(a);
        duel.fill(game, far, true);
        return duel.verdict(game.top(), far.top());
    }

    public int weight(int s, int a) {
        if (!isSlot(s) || !isSlot(a)) {
            return fail(BEYOND);
        }
        Game game = shelf.held(a);
        if (!game.isSmall()) {
            return fail(STATE);
        }
        Game found = scribe.written(weigher.weigh(game));
        int width = settle(s, found);
        if (found == null) {
            return width;
        }
        return found.isInteger() ? 1 : 0;
    }

    public int atomic(int a) {
        if (!isSlot(a)) {
            return fail(BEYOND);
        }
        Game game = shelf.held(a);
        if (!game.isSmall()) {
            return fail(STATE);
        }
        int node = weigher.weigh(game);
        return yard.isWhole(node) ? yard.valueOf(node) : fail(NONE);
    }

    public int ahead(int a) {
        if (!isSlot(a)) {
            return fail(BEYOND);
        }
        Game game = shelf.held(a);
        if (!game.isSmall()) {
            return fail(STATE);
        }
        int node = weigher.weigh(game);
        int value = yard.isWhole(node) ? yard.valueOf(node) : 0;
        if (value >= 2) {
            return 1;
        }
        return value <= -2 ? -1 : 0;
    }

    public int garden(int set) {
        if (!isSet(set)) {
            return fail(BEYOND);
        }
        for (int s = 0; s < SLOTS; s++) {
            if (isIn(set, s) && !shelf.held(s).isSmall()) {
                return fail(STATE);
            }
        }
        int together = 0;
        for (int s = 0; s < SLOTS; s++) {
            if (isIn(set, s)) {
                int node = weigher.weigh(shelf.held(s));
                if (!yard.isWhole(node)) {
                    return fail(NONE);
                }
                together += yard.valueOf(node);
            }
        }
        return together;
    }

    // ---- moves

    public int reply(int a, int b, int who, int what) {
        if (!isSlot(a) || !isSlot(b) || !isBit(who) || !isBit(what)) {
            return fail(BEYOND);
        }
        Game first = shelf.held(a);
        Game second = shelf.held(b);
        duel.fill(first, second, false);
        int found = duel.bestMove(first.top(), second.top(), who);
        if (found < 0) {
            return fail(NONE);
        }
        return what == 0 ? Duel.gameOf(found) : Duel.numberOf(found);
    }

    public int fight(int a, int b, int who, int what) {
        if (!isSlot(a) || !isSlot(b) || !isBit(who) || !isBit(what)) {
            return fail(BEYOND);
        }
        duel.fill(shelf.held(a), shelf.held(b), false);
        int moves = duel.fought(who);
        return what == 0 ? (who + moves & 1) : moves;
    }

    public int plays(int sheet, int a, int what) {
        if (!sheets.isSheet(sheet) || !isSlot(a) || !isBit(what)) {
            return fail(BEYOND);
        }
        if (sheets.isMissing(sheet)) {
            return fail(MISSING);
        }
        Game game = shelf.held(a);
        int stands = game.top();
        int done = 0;
        for (int i = 0; i < sheets.length(sheet); i++) {
            int next = game.numbered(stands, i & 1, sheets.number(sheet, i));
            if (next < 0) {
                break;
            }
            stands = next;
            done++;
        }
        if (what == 0) {
            return done;
        }
        duel.fill(game, shelf.zero(), false);
        return duel.verdict(stands, 0);
    }

    // ---- all small games

    public int born(int day, int i, int s) {
        if (!Nursery.isDay(day) || i < -1 || i >= 0 && !isSlot(s)) {
            return fail(BEYOND);
        }
        if (i == -1) {
            return nursery.many(day);
        }
        Game found = nursery.numbered(day, i);
        return found == null ? fail(NONE) : settle(s, found);
    }

    public int place(int day, int s) {
        if (!Nursery.isDay(day) || !isSlot(s)) {
            return fail(BEYOND);
        }
        int found = nursery.numberOf(day, shelf.held(s));
        return found < 0 ? fail(NONE) : found;
    }

    // ---- texts

    public int feed(long word, int n) {
        if (!isWithin(n, 1, 8)) {
            return fail(BEYOND);
        }
        return tape.hasRoom(n) ? tape.take(word, n) : fail(FULL);
    }

    public int game(int s) {
        if (!isSlot(s)) {
            return fail(BEYOND);
        }
        int fault = tape.parse();
        tape.empty();
        if (fault >= 0) {
            return FAULT_FROM - fault;
        }
        return settle(s, tape.build());
    }

    // ---- sheets

    public int sheet(int sheet, int bits, int n) {
        if (!sheets.isSheet(sheet) || !Sheets.isKind(bits)) {
            return fail(BEYOND);
        }
        if (bits == 0) {
            return sheets.lay(sheet, 0, 0);
        }
        if (n < 0) {
            return fail(STATE);
        }
        return n > Sheets.MOST ? fail(BEYOND) : sheets.lay(sheet, bits, n);
    }

    public int put(int sheet, int i, int v) {
        int error = numberError(sheet, i);
        return error != 0 ? fail(error) : sheets.write(sheet, i, v);
    }

    public int at(int sheet, int i) {
        int error = numberError(sheet, i);
        return error != 0 ? fail(error) : sheets.number(sheet, i);
    }

    public int copy(int sheet, int i, int other, int j, int n) {
        if (!sheets.isSheet(sheet) || !sheets.isSheet(other)) {
            return fail(BEYOND);
        }
        if (sheets.isMissing(sheet) || sheets.isMissing(other)) {
            return fail(MISSING);
        }
        if (!sheets.areAlike(sheet, other)) {
            return fail(KIND);
        }
        if (!sheets.stand(sheet, i, n) || !sheets.stand(other, j, n)) {
            return fail(BEYOND);
        }
        return sheets.carry(sheet, i, other, j, n);
    }

    // ---- images, what is told

    public int image() {
        shelf.keepImage();
        return shelf.widths();
    }

    public int restore() {
        if (!shelf.bringImage()) {
            return fail(NONE);
        }
        return shelf.widths();
    }

    public int count(int what) {
        switch (what) {
            case 0: return shelf.smallOnes();
            case 1: return shelf.widths();
            case 2: return tape.length();
            case 3: return shelf.pastActs();
            case 4: return shelf.unlikeOnes();
            case 5: return sheets.laidOnes();
            default: return fail(BEYOND);
        }
    }

    public int told(int k) {
        return isWithin(k, 1, ERRORS) ? failures[k] : fail(BEYOND);
    }

    private int fail(int error) {
        int k = LOW - error;
        if (isWithin(k, 1, ERRORS)) {
            failures[k]++;
        }
        return error;
    }

    /** The slot holds the game then; null stands for one that is too wide or too long for a slot. */
    private int settle(int s, Game game) {
        if (game == null) {
            return fail(FULL);
        }
        shelf.hold(s, game);
        return game.width();
    }

    private int pick(int set, int from) {
        int end = from;
        for (int s = 0; s < SLOTS; s++) {
            if (isIn(set, s) && end >= 0 && end < picked.length) {
                picked[end] = shelf.held(s);
                end++;
            }
        }
        return end;
    }

    private int sumOutcome(Game first, Game second) {
        duel.fill(first, second, false);
        return duel.verdict(first.top(), second.top());
    }

    private int numberError(int sheet, int i) {
        if (!sheets.isSheet(sheet)) {
            return BEYOND;
        }
        if (sheets.isMissing(sheet)) {
            return MISSING;
        }
        return sheets.stand(sheet, i, 1) ? 0 : BEYOND;
    }

    private static boolean isSlot(int s) {
        return isWithin(s, 0, SLOTS - 1);
    }

    private static boolean isSet(int set) {
        return isWithin(set, 0, SETS - 1);
    }

    private static boolean isBit(int n) {
        return n == 0 || n == 1;
    }

    private static boolean isIn(int set, int s) {
        return (set >> s & 1) != 0;
    }

    private static boolean isWithin(int n, int least, int most) {
        return n >= least && n <= most;
    }

    /**
     * A canonical game, by its followers: 0 is the first, the game itself the last, and between them
     * they stand by their words, so that options come ahead of what has them.
     */
    private static final class Game {
        private final int[] left;
        private final int[] right;
        private final byte[] words;
        private final int day;
        private final int heapNumber;

        private Game(int[] left, int[] right, byte[] words, int day, int heapNumber) {
            this.left = left;
            this.right = right;
            this.words = words;
            this.day = day;
            this.heapNumber = heapNumber;
        }

        private static Game zero() {
            return new Game(new int[1], new int[1], new byte[] {'0'}, 0, 0);
        }

        /** Too wide for a slot, so no scribe writes it. */
        private static Game farHeap() {
            int[] both = new int[FAR_HEAP + 1];
            for (int k = 0; k < both.length; k++) {
                both[k] = (1 << k) - 1;
            }
            return new Game(both, both, new byte[] {'*', '1', '0'}, FAR_HEAP, FAR_HEAP);
        }

        private int width() {
            return left.length;
        }

        private int top() {
            return left.length - 1;
        }

        private int options(int k, int who) {
            int[] all = who == 0 ? left : right;
            return k >= 0 && k < all.length ? all[k] : 0;
        }

        /** The follower that is option i of one (who) of follower k, or -1. */
        private int numbered(int k, int who, int i) {
            int mask = options(k, who);
            int seen = 0;
            for (int n = 0; n < left.length; n++) {
                int follower = byWords(n);
                if ((mask >> follower & 1) != 0) {
                    if (seen == i) {
                        return follower;
                    }
                    seen++;
                }
            }
            return -1;
        }

        /** Only * has its words ahead of those of its option, 0. */
        private int byWords(int n) {
            boolean starred = options(1, 0) == 1 && options(1, 1) == 1;
            return starred && n < 2 ? 1 - n : n;
        }

        private boolean isInteger() {
            return options(top(), 0) == 0 || options(top(), 1) == 0;
        }

        private int value() {
            return options(top(), 1) == 0 ? top() : -top();
        }

        private boolean isSmall() {
            for (int k = 0; k < left.length; k++) {
                if ((options(k, 0) == 0) != (options(k, 1) == 0)) {
                    return false;
                }
            }
            return true;
        }

        private int compareWords(Game other) {
            if (words.length != other.words.length) {
                return Integer.compare(words.length, other.words.length);
            }
            for (int i = 0; i < words.length && i < other.words.length; i++) {
                if (words[i] != other.words[i]) {
                    return Integer.compare(words[i], other.words[i]);
                }
            }
            return 0;
        }
    }

    /**
     * Where games are made canonical: nodes, each with its options and with all nodes above and below
     * it (itself too), as rows of bits. No two nodes are equal; options come ahead; node 0 is 0.
     */
    private static final class Yard {
        private static final int ROOM = 256;
        private static final int LONGS = ROOM / 64;

        private final long[] left = new long[ROOM * LONGS];
        private final long[] right = new long[ROOM * LONGS];
        private final long[] above = new long[ROOM * LONGS];
        private final long[] below = new long[ROOM * LONGS];
        private final int[] risen = new int[ROOM];
        private final int[] sunk = new int[ROOM];
        private final long[] newLeft = new long[LONGS];
        private final long[] newRight = new long[LONGS];
        private final long[] newAbove = new long[LONGS];
        private final long[] newBelow = new long[LONGS];
        private final long[] underLeft = new long[LONGS];
        private final long[] overRight = new long[LONGS];
        private final long[] wanted = new long[LONGS];
        private int size;
        private boolean spoilt;

        private void clear() {
            size = 0;
            begin();
            end();
        }

        private void begin() {
            spoilt = false;
            Arrays.fill(newLeft, 0L);
            Arrays.fill(newRight, 0L);
        }

        /** For all nodes among the first 64, by bits. */
        private void beginWith(long options, long others) {
            begin();
            newLeft[0] = options;
            newRight[0] = others;
        }

        private void addLeft(int node) {
            spoilt |= !isNode(node);
            mark(newLeft, 0, node);
        }

        private void addRight(int node) {
            spoilt |= !isNode(node);
            mark(newRight, 0, node);
        }

        /** The node that equals the game begun and filled, or -1: there is no room. */
        private int end() {
            if (spoilt) {
                return -1;
            }
            int twin = compareAll();
            if (twin >= 0) {
                return twin;
            }
            for (int node = size - 1; node >= 0; node--) {
                bypass(newLeft, node, right, newBelow, left);
                bypass(newRight, node, left, newAbove, right);
            }
            for (int node = 0; node < size; node++) {
                dropIfOutdone(newLeft, node, above);
                dropIfOutdone(newRight, node, below);
            }
            return add();
        }

        /** Each node's options have been compared ahead of it, as they stand ahead of it. */
        private int compareAll() {
            Arrays.fill(newAbove, 0L);
            Arrays.fill(newBelow, 0L);
            Arrays.fill(underLeft, 0L);
            Arrays.fill(overRight, 0L);
            for (int node = 0; node < size; node++) {
                if (has(newLeft, 0, node)) {
                    join(underLeft, below, node);
                }
                if (has(newRight, 0, node)) {
                    join(overRight, above, node);
                }
            }
            for (int node = 0; node < size; node++) {
                boolean isAbove = !has(underLeft, 0, node) && !meets(right, node, newBelow);
                boolean isBelow = !has(overRight, 0, node) && !meets(left, node, newAbove);
                if (isAbove && isBelow) {
                    return node;
                }
                if (isAbove) {
                    mark(newAbove, 0, node);
                }
                if (isBelow) {
                    mark(newBelow, 0, node);
                }
            }
            return -1;
        }

        /** An option with an answer that is no worse for the other one: what stands behind that answer takes its place. */
        private void bypass(long[] options, int node, long[] answers, long[] good, long[] behind) {
            if (!has(options, 0, node)) {
                return;
            }
            for (int answer = 0; answer < node; answer++) {
                if (has(answers, node, answer) && has(good, 0, answer)) {
                    unmark(options, 0, node);
                    join(options, behind, answer);
                    return;
                }
            }
        }

        private void dropIfOutdone(long[] options, int node, long[] better) {
            if (has(options, 0, node)) {
                unmark(options, 0, node);
                if (!meets(better, node, options)) {
                    mark(options, 0, node);
                }
            }
        }

        private int add() {
            if (size >= ROOM) {
                return -1;
            }
            int node = size;
            size++;
            replace(left, node, newLeft);
            replace(right, node, newRight);
            replace(above, node, newAbove);
            replace(below, node, newBelow);
            for (int other = 0; other < node; other++) {
                if (has(newAbove, 0, other)) {
                    mark(below, other, node);
                }
                if (has(newBelow, 0, other)) {
                    mark(above, other, node);
                }
            }
            mark(above, node, node);
            mark(below, node, node);
            risen[node] = -1;
            sunk[node] = -1;
            return node;
        }

        private boolean isNode(int node) {
            return node >= 0 && node < size && size <= ROOM;
        }

        private boolean isOption(int node, int who, int option) {
            return isNode(node) && isNode(option) && has(who == 0 ? left : right, node, option);
        }

        private boolean isAtMost(int node, int other) {
            return isNode(node) && isNode(other) && has(above, node, other);
        }

        /** A canonical game where one can't move is an integer. */
        private boolean isWhole(int node) {
            return isNode(node) && (isBare(left, node) || isBare(right, node));
        }

        private int valueOf(int node) {
            if (!isNode(node)) {
                return 0;
            }
            gather(node);
            int steps = -1;
            for (int follower = 0; follower <= node; follower++) {
                if (has(wanted, 0, follower)) {
                    steps++;
                }
            }
            return isBare(right, node) ? steps : -steps;
        }

        /** The followers, those with no followers but 0 first; how many, or -1: more than the row can hold. */
        private int followers(int node, int[] row) {
            if (!isNode(node)) {
                return -1;
            }
            gather(node);
            int many = 0;
            for (int follower = 0; follower <= node; follower++) {
                if (has(wanted, 0, follower)) {
                    if (many >= row.length) {
                        return -1;
                    }
                    row[many] = follower;
                    many++;
                }
            }
            return many;
        }

        private void gather(int node) {
            Arrays.fill(wanted, 0L);
            mark(wanted, 0, node);
            for (int follower = node; follower >= 0; follower--) {
                if (has(wanted, 0, follower)) {
                    join(wanted, left, follower);
                    join(wanted, right, follower);
                }
            }
        }

        /** The sum of a node and 1 (up), or -1 (not up); or -1: there is no room. */
        private int shifted(int node, boolean up) {
            if (!isNode(node)) {
                return -1;
            }
            gather(node);
            int[] known = up ? risen : sunk;
            for (int follower = 0; follower <= node && follower < known.length; follower++) {
                if (has(wanted, 0, follower) && known[follower] < 0) {
                    begin();
                    mark(up ? newLeft : newRight, 0, follower);
                    for (int option = 0; option < follower; option++) {
                        if (has(left, follower, option)) {
                            addLeft(known[option]);
                        }
                        if (has(right, follower, option)) {
                            addRight(known[option]);
                        }
                    }
                    known[follower] = end();
                }
            }
            return node < known.length ? known[node] : -1;
        }

        private static boolean has(long[] rows, int row, int bit) {
            int at = row * LONGS + (bit >> 6);
            return at >= 0 && at < rows.length && (rows[at] >>> (bit & 63) & 1L) != 0L;
        }

        private static void mark(long[] rows, int row, int bit) {
            int at = row * LONGS + (bit >> 6);
            if (at >= 0 && at < rows.length) {
                rows[at] |= 1L << (bit & 63);
            }
        }

        private static void unmark(long[] rows, int row, int bit) {
            int at = row * LONGS + (bit >> 6);
            if (at >= 0 && at < rows.length) {
                rows[at] &= ~(1L << (bit & 63));
            }
        }

        private static boolean meets(long[] rows, int row, long[] set) {
            int from = row * LONGS;
            for (int i = 0; i < LONGS && i < set.length && from >= 0 && from + i < rows.length; i++) {
                if ((rows[from + i] & set[i]) != 0L) {
                    return true;
                }
            }
            return false;
        }

        private static boolean isBare(long[] rows, int row) {
            int from = row * LONGS;
            for (int i = 0; i < LONGS && from >= 0 && from + i < rows.length; i++) {
                if (rows[from + i] != 0L) {
                    return false;
                }
            }
            return true;
        }

        private static void join(long[] set, long[] rows, int row) {
            int from = row * LONGS;
            for (int i = 0; i < LONGS && i < set.length && from >= 0 && from + i < rows.length; i++) {
                set[i] |= rows[from + i];
            }
        }

        private static void replace(long[] rows, int row, long[] set) {
            int from = row * LONGS;
            for (int i = 0; i < LONGS && i < set.length && from >= 0 && from + i < rows.length; i++) {
                rows[from + i] = set[i];
            }
        }
    }

    /** Writes a node of the yard as a game of its own, with its words, if a slot can hold it. */
    private static final class Scribe {
        private final Yard yard;
        private final int[] nodes = new int[MOST_WIDTH];
        private final int[] left = new int[MOST_WIDTH];
        private final int[] right = new int[MOST_WIDTH];
        private final int[] days = new int[MOST_WIDTH];
        private final int[] heaps = new int[MOST_WIDTH];
        private final int[] sorted = new int[MOST_WIDTH];
        private final int[] ranks = new int[MOST_WIDTH];
        private final int[] lengths = new int[MOST_WIDTH];
        private final byte[] texts = new byte[MOST_WIDTH * MOST_WORDS];
        private boolean tooLong;

        private Scribe(Yard yard) {
            this.yard = yard;
        }

        /** Null: it is too wide or too long for a slot (or no node at all). */
        private Game written(int node) {
            int many = yard.followers(node, nodes);
            if (many < 1 || many > MOST_WIDTH) {
                return null;
            }
            tooLong = false;
            for (int f = 0; f < many; f++) {
                left[f] = maskOf(f, 0);
                right[f] = maskOf(f, 1);
                days[f] = dayOf(f);
                heaps[f] = heapOf(f);
                spell(f);
                sortIn(f);
            }
            return tooLong ? null : settled(many);
        }

        private int maskOf(int f, int who) {
            int mask = 0;
            for (int g = 0; g < f && f < nodes.length; g++) {
                if (yard.isOption(nodes[f], who, nodes[g])) {
                    mask |= 1 << g;
                }
            }
            return mask;
        }

        private int dayOf(int f) {
            int latest = -1;
            for (int g = 0; g < f && f < days.length; g++) {
                if (((left[f] | right[f]) >> g & 1) != 0) {
                    latest = Math.max(latest, days[g]);
                }
            }
            return latest + 1;
        }

        /** All its options are unlike heaps, so they are the least ones if none is too high. */
        private int heapOf(int f) {
            if (f < 0 || f >= left.length || left[f] != right[f]) {
                return -1;
            }
            int many = Integer.bitCount(left[f]);
            for (int g = 0; g < f; g++) {
                if ((left[f] >> g & 1) != 0 && (heaps[g] < 0 || heaps[g] >= many)) {
                    return -1;
                }
            }
            return many;
        }

        private void spell(int f) {
            if (f < 0 || f >= lengths.length) {
                return;
            }
            lengths[f] = 0;
            if (left[f] == 0 || right[f] == 0) {
                // An integer has come from 0 by as many steps as days have gone by.
                if (right[f] != 0) {
                    type(f, '-');
                }
                type(f, '0' + days[f]);
            } else if (heaps[f] > 0) {
                type(f, '*');
                if (heaps[f] > 1) {
                    type(f, '0' + heaps[f]);
                }
            } else {
                type(f, '{');
                spellOptions(f, left[f]);
                type(f, '|');
                spellOptions(f, right[f]);
                type(f, '}');
            }
        }

        private void spellOptions(int f, int mask) {
            boolean first = true;
            for (int n = 0; n < f && n < sorted.length; n++) {
                int g = sorted[n];
                if (g >= 0 && g < lengths.length && (mask >> g & 1) != 0) {
                    if (!first) {
                        type(f, ',');
                    }
                    first = false;
                    for (int i = 0; i < lengths[g] && i < MOST_WORDS; i++) {
                        type(f, texts[g * MOST_WORDS + i]);
                    }
                }
            }
        }

        private void type(int f, int sign) {
            if (f < 0 || f >= lengths.length || lengths[f] < 0 || lengths[f] >= MOST_WORDS) {
                tooLong = true;
                return;
            }
            texts[f * MOST_WORDS + lengths[f]] = (byte) sign;
            lengths[f]++;
        }

        private void sortIn(int f) {
            int n = f;
            while (n > 0 && n < sorted.length && isAhead(f, sorted[n - 1])) {
                sorted[n] = sorted[n - 1];
                n--;
            }
            if (n >= 0 && n < sorted.length) {
                sorted[n] = f;
            }
        }

        private boolean isAhead(int f, int g) {
            if (f < 0 || g < 0 || f >= lengths.length || g >= lengths.length) {
                return false;
            }
            if (lengths[f] != lengths[g]) {
                return lengths[f] < lengths[g];
            }
            for (int i = 0; i < lengths[f] && i < MOST_WORDS; i++) {
                int sign = texts[f * MOST_WORDS + i];
                int other = texts[g * MOST_WORDS + i];
                if (sign != other) {
                    return sign < other;
                }
            }
            return false;
        }

        private Game settled(int many) {
            if (many > 1 && many <= sorted.length && sorted[0] != 0) {
                // Only * goes ahead of 0; the game's row begins with 0.
                sorted[1] = sorted[0];
                sorted[0] = 0;
            }
            for (int n = 0; n < many && n < sorted.length; n++) {
                if (sorted[n] >= 0 && sorted[n] < ranks.length) {
                    ranks[sorted[n]] = n;
                }
            }
            int width = Math.max(many, 0);
            int[] rankedLeft = new int[width];
            int[] rankedRight = new int[width];
            for (int f = 0; f < width && f < ranks.length; f++) {
                int rank = ranks[f];
                if (rank >= 0 && rank < width) {
                    rankedLeft[rank] = rankedMask(left[f], many);
                    rankedRight[rank] = rankedMask(right[f], many);
                }
            }
            int last = width - 1;
            if (last < 0 || last >= lengths.length) {
                return null;
            }
            int from = last * MOST_WORDS;
            byte[] words = Arrays.copyOfRange(texts, from, from + Math.min(Math.max(lengths[last], 0), MOST_WORDS));
            return new Game(rankedLeft, rankedRight, words, days[last], heaps[last]);
        }

        private int rankedMask(int mask, int many) {
            int ranked = 0;
            for (int f = 0; f < many && f < ranks.length; f++) {
                if ((mask >> f & 1) != 0) {
                    ranked |= 1 << ranks[f];
                }
            }
            return ranked;
        }
    }

    /** Makes games in the yard; each answer is null where no slot could hold it. */
    private static final class Maker {
        private static final int SIDE = MOST_WIDTH + 1;
        private static final int HEAPS = 16;

        private final Yard yard;
        private final Scribe scribe;
        private final int[] nodes = new int[SIDE];
        private final int[] pairs = new int[SIDE * SIDE];
        private final int[] heaps = new int[HEAPS];
        private final int[] row = new int[Tape.ROOM];
        private final Game up;

        private Maker(Yard yard, Scribe scribe) {
            this.yard = yard;
            this.scribe = scribe;
            yard.clear();
            int star = pairOf(0, 0);
            up = scribe.written(pairOf(0, star));
        }

        private int pairOf(int left, int right) {
            yard.begin();
            yard.addLeft(left);
            yard.addRight(right);
            return yard.end();
        }

        private Game upGame() {
            return up;
        }

        private Game integerOf(int n) {
            yard.clear();
            int node = 0;
            for (int steps = 0; steps < Math.min(Math.abs(n), Yard.ROOM); steps++) {
                yard.begin();
                if (n > 0) {
                    yard.addLeft(node);
                } else {
                    yard.addRight(node);
                }
                node = yard.end();
            }
            return scribe.written(node);
        }

        private Game heapOf(int n) {
            yard.clear();
            return scribe.written(heapNode(n));
        }

        /** Leaves the nodes of all lower heaps in their row. */
        private int heapNode(int n) {
            int node = 0;
            for (int k = 0; k <= n && k < heaps.length; k++) {
                beginHeap(k);
                node = yard.end();
                heaps[k] = node;
            }
            return node;
        }

        private void beginHeap(int n) {
            yard.begin();
            for (int k = 0; k < n && k < heaps.length; k++) {
                yard.addLeft(heaps[k]);
                yard.addRight(heaps[k]);
            }
        }

        private Game upsAndHeap(int n, int m) {
            Game step = n < 0 ? negativeOf(up) : up;
            Game sum = heapOf(0);
            for (int k = 0; k < Math.abs(n) && k < SIDE; k++) {
                sum = sumOf(sum, step);
            }
            return sumOf(sum, heapOf(m));
        }

        /** A flower's node stands in the grid by its petals, blue by rows. */
        private Game flowerOf(int stem, int blue, int red) {
            yard.clear();
            heapNode(stem);
            int node = -1;
            for (int b = 0; b <= blue && b < SIDE; b++) {
                for (int r = 0; r <= red && r < SIDE; r++) {
                    beginHeap(stem);
                    if (b > 0) {
                        yard.addLeft(pairs[(b - 1) * SIDE + r]);
                    }
                    if (r > 0) {
                        yard.addRight(pairs[b * SIDE + r - 1]);
                    }
                    node = yard.end();
                    pairs[b * SIDE + r] = node;
                }
            }
            return scribe.written(node);
        }

        /** Options of left stand in the row of games from one place up to the middle, those of right up to the end. */
        private Game gameOf(Game[] games, int from, int middle, int end) {
            if (from < 0 || end > games.length || end - from > row.length) {
                return null;
            }
            yard.clear();
            for (int i = from; i < end; i++) {
                row[i - from] = load(games[i], false);
            }
            yard.begin();
            for (int i = from; i < end; i++) {
                if (i < middle) {
                    yard.addLeft(row[i - from]);
                } else {
                    yard.addRight(row[i - from]);
                }
            }
            return scribe.written(yard.end());
        }

        private Game sumOf(Game first, Game second) {
            if (first == null || second == null || first.width() > SIDE || second.width() > SIDE) {
                return null;
            }
            yard.clear();
            int node = -1;
            for (int i = 0; i < first.width(); i++) {
                for (int j = 0; j < second.width(); j++) {
                    yard.begin();
                    for (int k = 0; k < i; k++) {
                        addIf(first, i, k, pairs[k * SIDE + j]);
                    }
                    for (int k = 0; k < j; k++) {
                        addIf(second, j, k, pairs[i * SIDE + k]);
                    }
                    node = yard.end();
                    pairs[i * SIDE + j] = node;
                }
            }
            return scribe.written(node);
        }

        private void addIf(Game game, int k, int option, int node) {
            if ((game.options(k, 0) >> option & 1) != 0) {
                yard.addLeft(node);
            }
            if ((game.options(k, 1) >> option & 1) != 0) {
                yard.addRight(node);
            }
        }

        private Game negativeOf(Game game) {
            yard.clear();
            return scribe.written(load(game, true));
        }

        private Game followerOf(Game game, int follower) {
            yard.clear();
            load(game, false);
            return follower >= 0 && follower < nodes.length ? scribe.written(nodes[follower]) : null;
        }

        /** The node of a game, or of its negative; the row of nodes has those of its followers. */
        private int load(Game game, boolean negative) {
            int node = -1;
            for (int k = 0; game != null && k < game.width() && k < nodes.length; k++) {
                yard.begin();
                for (int option = 0; option < k; option++) {
                    if ((game.options(k, negative ? 1 : 0) >> option & 1) != 0) {
                        yard.addLeft(nodes[option]);
                    }
                    if ((game.options(k, negative ? 0 : 1) >> option & 1) != 0) {
                        yard.addRight(nodes[option]);
                    }
                }
                node = yard.end();
                nodes[k] = node;
            }
            return node;
        }
    }

    /** Who wins each sum of a follower of one game and one of another, by rows of bits. */
    private static final class Duel {
        private static final int SIDE = FAR_HEAP + 1;
        private static final int NUMBERS = 32;

        private final int[] over = new int[SIDE];
        private final int[] under = new int[SIDE];
        private Game first;
        private Game second;
        private boolean mirrored;

        /** Mirrored: the second game's negative takes its place. */
        private void fill(Game first, Game second, boolean mirrored) {
            this.first = first;
            this.second = second;
            this.mirrored = mirrored;
            for (int i = 0; i < first.width() && i < SIDE; i++) {
                over[i] = 0;
                under[i] = 0;
                for (int j = 0; j < second.width() && j < SIDE; j++) {
                    if (!canReach(i, j, 1, under)) {
                        over[i] |= 1 << j;
                    }
                    if (!canReach(i, j, 0, over)) {
                        under[i] |= 1 << j;
                    }
                }
            }
        }

        /** Whether one has a move to a sum that is in the rows, all of which stand ahead. */
        private boolean canReach(int i, int j, int who, int[] rows) {
            int mask = first.options(i, who);
            for (int k = 0; k < i && k < rows.length; k++) {
                if ((mask >> k & 1) != 0 && (rows[k] >> j & 1) != 0) {
                    return true;
                }
            }
            int others = second.options(j, mirrored ? 1 - who : who);
            return i >= 0 && i < rows.length && (rows[i] & others) != 0;
        }

        private int verdict(int i, int j) {
            if (i < 0 || i >= SIDE || j < 0 || j >= SIDE) {
                return 0;
            }
            boolean isOver = (over[i] >> j & 1) != 0;
            boolean isUnder = (under[i] >> j & 1) != 0;
            if (isOver) {
                return isUnder ? 0 : 1;
            }
            return isUnder ? -1 : 2;
        }

        private static int gameOf(int found) {
            return found >= NUMBERS ? 1 : 0;
        }

        private static int numberOf(int found) {
            return found & NUMBERS - 1;
        }

        /** The first move behind which the other one doesn't win, or -1. */
        private int bestMove(int i, int j, int who) {
            int[] safe = who == 0 ? over : under;
            for (int n = 0; n < SIDE; n++) {
                int k = first.numbered(i, who, n);
                if (k >= 0 && k < safe.length && (safe[k] >> j & 1) != 0) {
                    return n;
                }
            }
            for (int n = 0; n < SIDE; n++) {
                int k = second.numbered(j, who, n);
                if (k >= 0 && i >= 0 && i < safe.length && (safe[i] >> k & 1) != 0) {
                    return NUMBERS + n;
                }
            }
            return -1;
        }

        private int firstMove(int i, int j, int who) {
            if (first.options(i, who) != 0) {
                return 0;
            }
            return second.options(j, who) != 0 ? NUMBERS : -1;
        }

        /** How many moves there are till one can't move. */
        private int fought(int who) {
            int i = first.top();
            int j = second.top();
            int moves = 0;
            while (moves < 2 * SIDE) {
                int mover = who + moves & 1;
                int found = bestMove(i, j, mover);
                if (found < 0) {
                    found = firstMove(i, j, mover);
                }
                if (found < 0) {
                    break;
                }
                if (gameOf(found) == 0) {
                    i = first.numbered(i, mover, numberOf(found));
                } else {
                    j = second.numbered(j, mover, numberOf(found));
                }
                moves++;
            }
            return moves;
        }
    }

    /** Weights of small games, as nodes of the yard. */
    private static final class Weigher {
        private static final int MOST_STEPS = 64;

        private final Yard yard;
        private final Duel duel;
        private final Game far;
        private final int[] lowered = new int[MOST_WIDTH];
        private final int[] raised = new int[MOST_WIDTH];

        private Weigher(Yard yard, Duel duel, Game far) {
            this.yard = yard;
            this.duel = duel;
            this.far = far;
        }

        /** Of each follower the weight less 2 and that and 2 are kept, as these become options. */
        private int weigh(Game game) {
            duel.fill(game, far, true);
            yard.clear();
            int node = 0;
            for (int k = 0; k < game.width() && k < MOST_WIDTH; k++) {
                yard.begin();
                for (int option = 0; option < k; option++) {
                    if ((game.options(k, 0) >> option & 1) != 0) {
                        yard.addLeft(lowered[option]);
                    }
                    if ((game.options(k, 1) >> option & 1) != 0) {
                        yard.addRight(raised[option]);
                    }
                }
                node = yard.end();
                if (k > 0 && yard.isWhole(node)) {
                    int verdict = duel.verdict(k, far.top());
                    boolean up = verdict == 1;
                    node = up || verdict == -1 ? furthest(game.options(k, up ? 1 : 0), node, up) : 0;
                }
                lowered[k] = yard.shifted(yard.shifted(node, false), false);
                raised[k] = yard.shifted(yard.shifted(node, true), true);
            }
            return node;
        }

        /** The last integer on the way up (down) that no option of right is at most (that is at most none of left). */
        private int furthest(int mask, int node, boolean up) {
            int stands = node;
            for (int steps = 0; steps < MOST_STEPS; steps++) {
                int next = yard.shifted(stands, up);
                if (next < 0 || isBarred(mask, next, up)) {
                    return stands;
                }
                stands = next;
            }
            return stands;
        }

        private boolean isBarred(int mask, int node, boolean up) {
            for (int option = 0; option < MOST_WIDTH; option++) {
                if ((mask >> option & 1) != 0) {
                    boolean bars = up ? yard.isAtMost(raised[option], node) : yard.isAtMost(node, lowered[option]);
                    if (bars) {
                        return true;
                    }
                }
            }
            return false;
        }
    }

    /** All small games by their birthday, made when they are first asked for. */
    private static final class Nursery {
        private static final int LAST_DAY = 3;
        private static final int MOST = 67;

        private final Yard yard;
        private final Scribe scribe;
        private final Game[] games = new Game[MOST];
        private int size;

        private Nursery(Yard yard, Scribe scribe) {
            this.yard = yard;
            this.scribe = scribe;
        }

        private static boolean isDay(int day) {
            return day >= 0 && day <= LAST_DAY;
        }

        private int many(int day) {
            fill();
            int many = 0;
            for (int n = 0; n < size; n++) {
                if (isBornBy(day, n)) {
                    many++;
                }
            }
            return many;
        }

        private Game numbered(int day, int i) {
            fill();
            int seen = 0;
            for (int n = 0; n < size; n++) {
                if (isBornBy(day, n)) {
                    if (seen == i) {
                        return games[n];
                    }
                    seen++;
                }
            }
            return null;
        }

        private int numberOf(int day, Game game) {
            fill();
            int seen = 0;
            for (int n = 0; n < size; n++) {
                if (isBornBy(day, n)) {
                    if (games[n].compareWords(game) == 0) {
                        return seen;
                    }
                    seen++;
                }
            }
            return -1;
        }

        private boolean isBornBy(int day, int n) {
            return n >= 0 && n < games.length && games[n] != null && games[n].day <= day;
        }

        private void fill() {
            if (size > 0) {
                return;
            }
            yard.clear();
            int nodes = 1;
            for (int day = 1; day <= LAST_DAY; day++) {
                nodes = addDay(nodes);
            }
            for (int node = 0; node < nodes; node++) {
                sortIn(scribe.written(node));
            }
        }

        /** All sets of options that are no worse for being without some other: no two of them in order. */
        private int addDay(int nodes) {
            int last = nodes - 1;
            for (int left = 1; left < 1 << nodes; left++) {
                if (isUnordered(left, nodes)) {
                    for (int right = 1; right < 1 << nodes; right++) {
                        if (isUnordered(right, nodes)) {
                            yard.beginWith(left, right);
                            last = Math.max(last, yard.end());
                        }
                    }
                }
            }
            return last + 1;
        }

        private boolean isUnordered(int set, int nodes) {
            for (int node = 0; node < nodes; node++) {
                for (int other = 0; other < nodes; other++) {
                    boolean both = (set >> node & set >> other & 1) != 0;
                    if (both && node != other && yard.isAtMost(node, other)) {
                        return false;
                    }
                }
            }
            return true;
        }

        private void sortIn(Game game) {
            if (game == null || size >= games.length) {
                return;
            }
            int n = size;
            while (n > 0 && game.compareWords(games[n - 1]) < 0) {
                games[n] = games[n - 1];
                n--;
            }
            games[n] = game;
            size++;
        }
    }

    /** Bytes that are told, read as the text of a game: checked first, and turned into steps that are done then. */
    private static final class Tape {
        private static final int ROOM = 120;
        private static final int MOST_OPEN = 5;
        private static final int MOST_NUMBER = 12;
        private static final int NO_SIGN = -1;
        private static final int INTEGER = 0;
        private static final int HEAP = 1;
        private static final int UP = 2;
        private static final int NEGATE = 3;
        private static final int ADD = 4;
        private static final int ENCLOSE = 5;

        private final Maker maker;
        private final byte[] bytes = new byte[ROOM];
        private final int[] steps = new int[ROOM];
        private final Game[] stack = new Game[ROOM];
        private int length;
        private int place;
        private int fault;
        private int many;

        private Tape(Maker maker) {
            this.maker = maker;
        }

        private int length() {
            return length;
        }

        private void empty() {
            length = 0;
        }

        private boolean hasRoom(int n) {
            return length + n <= ROOM;
        }

        private int take(long word, int n) {
            for (int i = 0; i < n && length >= 0 && length < bytes.length; i++) {
                bytes[length] = (byte) (word >> 8 * i);
                length++;
            }
            return length;
        }

        /** The fault, or -1; the steps to build the game are laid down. */
        private int parse() {
            place = 0;
            many = 0;
            fault = -1;
            if (parseSum(0) && place < length) {
                fault = place;
            }
            return fault;
        }

        private int sign() {
            return place >= 0 && place < length && place < bytes.length ? bytes[place] : NO_SIGN;
        }

        private boolean failAt(int where) {
            fault = where;
            return false;
        }

        private boolean step(int kind, int first, int second) {
            if (many >= 0 && many < steps.length) {
                steps[many] = kind | first << 4 | second << 12;
                many++;
            }
            return true;
        }

        private boolean parseSum(int open) {
            if (!parseUnit(open)) {
                return false;
            }
            while (place < length && sign() == '+') {
                place++;
                if (!parseUnit(open)) {
                    return false;
                }
                step(ADD, 0, 0);
            }
            return true;
        }

        private boolean parseUnit(int open) {
            int sign = sign();
            if (sign == '{' || sign == '-') {
                if (open >= MOST_OPEN) {
                    return failAt(place);
                }
                place++;
                if (sign == '{') {
                    return parseRows(open + 1);
                }
                return parseUnit(open + 1) && step(NEGATE, 0, 0);
            }
            if (isDigit(sign)) {
                return parseNumber(INTEGER);
            }
            if (sign == '^') {
                place++;
                return step(UP, 0, 0);
            }
            if (sign == '*') {
                place++;
                return isDigit(sign()) ? parseNumber(HEAP) : step(HEAP, 1, 0);
            }
            return failAt(place);
        }

        private boolean parseNumber(int kind) {
            int from = place;
            int number = 0;
            while (place < from + 2 && isDigit(sign())) {
                number = number * 10 + sign() - '0';
                place++;
            }
            return number > MOST_NUMBER ? failAt(from) : step(kind, number, 0);
        }

        private boolean parseRows(int open) {
            int left = parseRow(open, '|');
            if (left < 0) {
                return false;
            }
            int right = parseRow(open, '}');
            return right >= 0 && step(ENCLOSE, left, right);
        }

        /** How many options stand ahead of the closing sign, or -1: there is a fault. */
        private int parseRow(int open, int closing) {
            if (sign() == closing) {
                place++;
                return 0;
            }
            int options = 0;
            while (options < ROOM) {
                if (!parseSum(open)) {
                    return -1;
                }
                options++;
                int sign = sign();
                if (sign != ',' && sign != closing) {
                    failAt(place);
                    return -1;
                }
                place++;
                if (sign == closing) {
                    break;
                }
            }
            return options;
        }

        private static boolean isDigit(int sign) {
            return sign >= '0' && sign <= '9';
        }

        /** The game that the steps lead to; null: some game on the way is more than a slot can hold. */
        private Game build() {
            int height = 0;
            for (int i = 0; i < many && i < steps.length; i++) {
                int kind = steps[i] & 15;
                int first = steps[i] >> 4 & 255;
                int second = steps[i] >> 12 & 255;
                int from = height - taken(kind, first, second);
                if (from < 0 || from >= stack.length || height > stack.length) {
                    return null;
                }
                Game latest = height > 0 ? stack[height - 1] : null;
                switch (kind) {
                    case INTEGER: stack[from] = maker.integerOf(first); break;
                    case HEAP: stack[from] = maker.heapOf(first); break;
                    case UP: stack[from] = maker.upGame(); break;
                    case NEGATE: stack[from] = maker.negativeOf(latest); break;
                    case ADD: stack[from] = maker.sumOf(stack[from], latest); break;
                    default: stack[from] = maker.gameOf(stack, from, from + first, height); break;
                }
                if (stack[from] == null) {
                    return null;
                }
                height = from + 1;
            }
            return stack[0];
        }

        private static int taken(int kind, int first, int second) {
            switch (kind) {
                case NEGATE: return 1;
                case ADD: return 2;
                case ENCLOSE: return first + second;
                default: return 0;
            }
        }
    }

    /** What the slots hold, what they held ahead of the latest acts, and the image. */
    private static final class Shelf {
        private static final int MOST_PAST = 8;

        private final Game zero;
        private final Game[] slots = new Game[SLOTS];
        private final int[] pastSlots = new int[MOST_PAST];
        private final Game[] pastGames = new Game[MOST_PAST];
        private final Game[] kept = new Game[SLOTS];
        private int past;
        private boolean hasImage;

        private Shelf(Game zero) {
            this.zero = zero;
            for (int s = 0; s < SLOTS; s++) {
                slots[s] = zero;
                kept[s] = zero;
            }
        }

        private Game zero() {
            return zero;
        }

        private Game held(int s) {
            return s >= 0 && s < slots.length ? slots[s] : zero;
        }

        private void hold(int s, Game game) {
            if (s < 0 || s >= slots.length) {
                return;
            }
            if (past >= MOST_PAST) {
                for (int k = 1; k < MOST_PAST; k++) {
                    pastSlots[k - 1] = pastSlots[k];
                    pastGames[k - 1] = pastGames[k];
                }
                past = MOST_PAST - 1;
            }
            if (past >= 0) {
                pastSlots[past] = s;
                pastGames[past] = slots[s];
                past++;
            }
            slots[s] = game;
        }

        private int pastActs() {
            return past;
        }

        /** How many acts are left, or -1: there was none to take back. */
        private int takeBack() {
            if (past < 1 || past > MOST_PAST) {
                return -1;
            }
            past--;
            int s = pastSlots[past];
            if (s >= 0 && s < slots.length) {
                slots[s] = pastGames[past];
            }
            return past;
        }

        private void keepImage() {
            for (int s = 0; s < SLOTS; s++) {
                kept[s] = slots[s];
            }
            hasImage = true;
        }

        private boolean bringImage() {
            if (!hasImage) {
                return false;
            }
            for (int s = 0; s < SLOTS; s++) {
                slots[s] = kept[s];
            }
            past = 0;
            return true;
        }

        private int widths() {
            int together = 0;
            for (int s = 0; s < SLOTS; s++) {
                together += slots[s].width();
            }
            return together;
        }

        private int smallOnes() {
            int many = 0;
            for (int s = 0; s < SLOTS; s++) {
                if (slots[s].isSmall()) {
                    many++;
                }
            }
            return many;
        }

        private int unlikeOnes() {
            int many = 0;
            for (int s = 0; s < SLOTS; s++) {
                boolean isNew = true;
                for (int other = 0; other < s; other++) {
                    if (slots[s].compareWords(slots[other]) == 0) {
                        isNew = false;
                    }
                }
                if (isNew) {
                    many++;
                }
            }
            return many;
        }
    }

    /** Rows of numbers of so many bits; 0 bits: the row is missing. */
    private static final class Sheets {
        private static final int SHEETS = 4;
        private static final int MOST = 24;

        private final int[][] numbers = new int[SHEETS][MOST];
        private final int[] bits = new int[SHEETS];
        private final int[] lengths = new int[SHEETS];

        private boolean isSheet(int sheet) {
            return sheet >= 0 && sheet < SHEETS;
        }

        private static boolean isKind(int bits) {
            return bits == 0 || bits == 8 || bits == 16 || bits == 32;
        }

        private boolean isMissing(int sheet) {
            return !isSheet(sheet) || bits[sheet] == 0;
        }

        private boolean areAlike(int sheet, int other) {
            return isSheet(sheet) && isSheet(other) && bits[sheet] == bits[other];
        }

        private int length(int sheet) {
            return isMissing(sheet) ? 0 : lengths[sheet];
        }

        private boolean stand(int sheet, int from, int n) {
            return n >= 0 && from >= 0 && from <= length(sheet) - n;
        }

        private int lay(int sheet, int kind, int n) {
            if (isSheet(sheet) && n >= 0 && n <= MOST) {
                bits[sheet] = kind;
                lengths[sheet] = n;
                Arrays.fill(numbers[sheet], 0);
            }
            return 1;
        }

        private int number(int sheet, int i) {
            return stand(sheet, i, 1) && i < MOST ? numbers[sheet][i] : 0;
        }

        private int write(int sheet, int i, int v) {
            if (stand(sheet, i, 1) && i < MOST) {
                numbers[sheet][i] = lowest(bits[sheet], v);
            }
            return 1;
        }

        private static int lowest(int kind, int v) {
            if (kind == 8) {
                return (byte) v;
            }
            return kind == 16 ? (short) v : v;
        }

        private int carry(int sheet, int i, int other, int j, int n) {
            if (stand(sheet, i, n) && stand(other, j, n)) {
                System.arraycopy(numbers[sheet], i, numbers[other], j, n);
            }
            return n;
        }

        private int laidOnes() {
            int many = 0;
            for (int sheet = 0; sheet < SHEETS; sheet++) {
                if (!isMissing(sheet)) {
                    many++;
                }
            }
            return many;
        }
    }
}
