/** For each promise: ordinary inputs, the edges that the document names, wrong inputs. */
public final class PromisesTest {
    private static final int BEYOND = -1100000001;
    private static final int NONE = -1100000002;
    private static final int STATE = -1100000003;
    private static final int FULL = -1100000004;
    private static final int KIND = -1100000005;
    private static final int MISSING = -1100000006;
    private static final int LEAST = Integer.MIN_VALUE;
    private static final int MOST = Integer.MAX_VALUE;

    private static int wrong;
    private static int asked;
    private static int promise;

    private static void due(int got, int want) {
        asked++;
        if (got != want) {
            wrong++;
            StackTraceElement from = Thread.currentThread().getStackTrace()[2];
            System.out.println("promise " + promise + ", line " + from.getLineNumber() + ": answered " + got + ", due is " + want);
        }
    }

    private static void dueWords(UppityGames x, int s, String want) {
        StringBuilder words = new StringBuilder();
        for (int i = 0; i < x.slot(s, 6); i++) {
            words.append((char) x.word(s, i));
        }
        asked++;
        if (!words.toString().equals(want)) {
            wrong++;
            StackTraceElement from = Thread.currentThread().getStackTrace()[2];
            System.out.println("promise " + promise + ", line " + from.getLineNumber() + ": words " + words + ", due are " + want);
        }
    }

    private static int text(UppityGames x, int s, String text) {
        for (Calls call : Calls.feeds(text)) {
            call.on(x);
        }
        return x.game(s);
    }

    private static String repeat(String part, int times) {
        return part.repeat(times);
    }

    public static void main(String[] args) {
        newObject();
        slot();
        integerAndWord();
        wholeAndHeap();
        ups();
        flower();
        made();
        plusAndMinus();
        optionAndMove();
        undo();
        order();
        outcomeAndFar();
        weight();
        atomicAndAhead();
        garden();
        reply();
        fight();
        plays();
        born();
        place();
        feed();
        game();
        faults();
        fullTexts();
        sheet();
        putAndAt();
        copy();
        imageAndRestore();
        count();
        told();
        System.out.println(asked + " answers, " + wrong + " wrong");
        if (wrong > 0) {
            System.exit(1);
        }
    }

    private static void newObject() {
        promise = 1;
        UppityGames x = new UppityGames();
        for (int s = 0; s < 8; s++) {
            dueWords(x, s, "0");
        }
        due(x.count(2), 0);
        due(x.count(3), 0);
        due(x.count(5), 0);
        due(x.restore(), NONE);
        due(x.undo(), NONE);
        UppityGames y = new UppityGames();
        y.whole(0, 5);
        due(x.slot(0, 0), 1);
    }

    private static void slot() {
        promise = 2;
        UppityGames x = new UppityGames();
        int[] zero = {1, 0, 0, 0, 0, 1, 1, 0, 1};
        int[] minusTwo = {3, 2, 0, 1, -1, 0, 2, -1, 1};
        int[] starTwo = {3, 2, 2, 2, 2, 1, 2, 2, 0};
        int[] star = {2, 1, 1, 1, 2, 1, 1, 1, 0};
        int[] up = {3, 2, 1, 1, 1, 1, 5, -1, 0};
        int[] half = {3, 2, 1, 1, 1, 0, 5, -1, 0};
        x.whole(1, -2);
        x.heap(2, 2);
        x.heap(3, 1);
        x.ups(4, 1, 0);
        text(x, 5, "{0|1}");
        int[][] all = {zero, minusTwo, starTwo, star, up, half};
        for (int s = 0; s < all.length; s++) {
            for (int what = 0; what < 9; what++) {
                due(x.slot(s, what), all[s][what]);
            }
        }
        for (int s : new int[] {-1, 8, LEAST, MOST}) {
            due(x.slot(s, 0), BEYOND);
            due(x.slot(0, s == 8 ? 9 : s), BEYOND);
        }
    }

    private static void integerAndWord() {
        promise = 3;
        UppityGames x = new UppityGames();
        due(x.integer(0), 0);
        x.whole(1, 9);
        due(x.integer(1), 9);
        x.whole(1, -9);
        due(x.integer(1), -9);
        x.heap(1, 1);
        due(x.integer(1), NONE);
        due(text(x, 1, "{0|1}"), 3);
        due(x.integer(1), NONE);
        due(text(x, 1, "{-5|7}"), 1);
        due(x.integer(1), 0);
        due(x.integer(8), BEYOND);
        due(x.integer(-1), BEYOND);
        promise = 4;
        due(x.word(0, 0), '0');
        due(x.word(0, 1), NONE);
        due(x.word(0, -1), NONE);
        due(x.word(0, MOST), NONE);
        due(x.word(0, LEAST), NONE);
        due(x.word(8, 0), BEYOND);
        due(x.word(-1, 0), BEYOND);
        text(x, 2, "{*,0|0}");
        // * has as many bytes as 0, and * is ahead of 0 in a dictionary of bytes.
        dueWords(x, 2, "{*,0|0}");
        text(x, 2, "{1,*|-1,{0|*}}");
        dueWords(x, 2, "{1|-1}");
        text(x, 2, "{*2,1|-1,*3}");
        dueWords(x, 2, "{1|-1}");
        // Fewer bytes first; of as many as in a dictionary.
        due(text(x, 2, "{{3|0},2|{-1|-2},-1}"), 9);
        dueWords(x, 2, "{2,{3|0}|-1,{-1|-2}}");
        due(text(x, 2, "{{4|0},{3|1}|-1}"), 9);
        dueWords(x, 2, "{{3|1},{4|0}|-1}");
    }

    private static void wholeAndHeap() {
        promise = 5;
        UppityGames x = new UppityGames();
        for (int n = -9; n <= 9; n++) {
            due(x.whole(n & 7, n), 1 + Math.abs(n));
            due(x.integer(n & 7), n);
            dueWords(x, n & 7, String.valueOf(n));
        }
        for (int n : new int[] {-10, 10, LEAST, MOST}) {
            due(x.whole(0, n), BEYOND);
        }
        due(x.whole(8, 0), BEYOND);
        due(x.whole(-1, 0), BEYOND);
        due(x.integer(0), 8);
        promise = 6;
        UppityGames y = new UppityGames();
        for (int n = 0; n <= 9; n++) {
            due(y.heap(n & 7, n), 1 + n);
            due(y.slot(n & 7, 7), n);
            dueWords(y, n & 7, n == 0 ? "0" : n == 1 ? "*" : "*" + n);
        }
        for (int n : new int[] {-1, 10, LEAST, MOST}) {
            due(y.heap(0, n), BEYOND);
        }
        due(y.heap(8, 0), BEYOND);
        due(y.heap(-1, 0), BEYOND);
        due(y.slot(0, 7), 8);
    }

    private static void ups() {
        promise = 7;
        UppityGames x = new UppityGames();
        due(x.ups(0, 0, 0), 1);
        due(x.ups(0, 1, 0), 3);
        dueWords(x, 0, "{0|*}");
        due(x.ups(0, 1, 1), 3);
        dueWords(x, 0, "{*,0|0}");
        due(x.ups(0, -1, 0), 3);
        dueWords(x, 0, "{*|0}");
        due(x.ups(0, -1, 1), 3);
        dueWords(x, 0, "{0|*,0}");
        due(x.ups(0, 2, 0), 4);
        dueWords(x, 0, "{0|{*,0|0}}");
        due(x.ups(0, 2, 1), 4);
        dueWords(x, 0, "{0|{0|*}}");
        due(x.ups(0, 4, 0), 6);
        due(x.ups(1, -4, 0), 6);
        due(x.outcome(0, 1), 0);
        due(x.ups(0, 0, 5), 6);
        due(x.slot(0, 7), 5);
        due(x.ups(0, 5, 0), BEYOND);
        due(x.ups(0, -5, 0), BEYOND);
        due(x.ups(0, 0, 6), BEYOND);
        due(x.ups(0, 0, -1), BEYOND);
        due(x.ups(8, 0, 0), BEYOND);
        due(x.ups(-1, 0, 0), BEYOND);
        due(x.ups(0, LEAST, MOST), BEYOND);
        due(x.slot(0, 7), 5);
        // The widest of them just fits.
        due(x.ups(0, 4, 5), 10);
        due(x.atomic(0), 4);
    }

    private static void flower() {
        promise = 8;
        UppityGames x = new UppityGames();
        due(x.flower(0, 1, 0, 0), 2);
        dueWords(x, 0, "*");
        due(x.flower(0, 4, 0, 0), 5);
        dueWords(x, 0, "*4");
        due(x.flower(0, 1, 1, 0), 3);
        dueWords(x, 0, "{*,0|0}");
        due(x.flower(0, 1, 0, 1), 3);
        dueWords(x, 0, "{0|*,0}");
        // With as many of both no petal tells: each answers the other one.
        due(x.flower(0, 1, 1, 1), 2);
        dueWords(x, 0, "*");
        due(x.flower(0, 4, 3, 3), 5);
        dueWords(x, 0, "*4");
        due(x.flower(0, 2, 3, 1), 5);
        due(x.flower(0, 0, 1, 1), BEYOND);
        due(x.flower(0, 5, 1, 1), BEYOND);
        due(x.flower(0, 1, -1, 1), BEYOND);
        due(x.flower(0, 1, 4, 1), BEYOND);
        due(x.flower(0, 1, 1, -1), BEYOND);
        due(x.flower(0, 1, 1, 4), BEYOND);
        due(x.flower(8, 1, 1, 1), BEYOND);
        due(x.flower(-1, 1, 1, 1), BEYOND);
        due(x.flower(0, LEAST, MOST, LEAST), BEYOND);
        due(x.slot(0, 0), 5);
    }

    private static void made() {
        promise = 9;
        UppityGames x = new UppityGames();
        due(x.made(1, 1, 1), 2);
        dueWords(x, 1, "*");
        due(x.made(2, 1, 2), 3);
        dueWords(x, 2, "{0|*}");
        // {up | down}: both options can be answered back to 0.
        x.minus(3, 2);
        due(x.made(4, 4, 8), 2);
        dueWords(x, 4, "*");
        due(x.made(4, 8, 4), 1);
        dueWords(x, 4, "0");
        due(x.made(4, 0, 0), 1);
        due(x.made(4, 1, 0), 2);
        due(x.integer(4), 1);
        due(x.made(5, 0, 1), 2);
        due(x.integer(5), -1);
        due(x.made(6, 255, 0), 3);
        due(x.integer(6), 2);
        // The slot that is made may itself be in both sets.
        due(x.made(6, 64, 64), 4);
        dueWords(x, 6, "{2|2}");
        due(x.made(6, 256, 0), BEYOND);
        due(x.made(6, 0, 256), BEYOND);
        due(x.made(6, -1, 0), BEYOND);
        due(x.made(6, 0, -1), BEYOND);
        due(x.made(8, 0, 0), BEYOND);
        due(x.made(-1, 0, 0), BEYOND);
        // All slots on both sides (0, *, up, down, 1, -1, {2|2}, 0): {2|2} is the best for left, -1 for right.
        due(x.made(6, 255, 255), 6);
        dueWords(x, 6, "{{2|2}|-1}");
        x.whole(0, 9);
        due(x.made(0, 1, 1), FULL);
        due(x.integer(0), 9);
        x.whole(0, -9);
        x.heap(1, 9);
        due(x.made(2, 2, 1), FULL);
    }

    private static void plusAndMinus() {
        promise = 10;
        UppityGames x = new UppityGames();
        x.whole(0, 4);
        x.whole(1, 5);
        due(x.plus(2, 0, 1), 10);
        due(x.integer(2), 9);
        due(x.plus(3, 2, 0), FULL);
        due(x.integer(3), 0);
        x.whole(3, -9);
        due(x.plus(3, 2, 3), 1);
        due(x.integer(3), 0);
        x.heap(4, 5);
        x.heap(5, 6);
        due(x.plus(6, 4, 5), 4);
        dueWords(x, 6, "*3");
        due(x.plus(6, 4, 4), 1);
        x.heap(4, 7);
        x.heap(5, 8);
        due(x.plus(6, 4, 5), FULL);
        text(x, 4, "{0|1}");
        due(x.plus(4, 4, 4), 2);
        due(x.integer(4), 1);
        // {2|-2} cools down to 0 when it is told twice.
        text(x, 4, "{2|-2}");
        due(x.plus(4, 4, 4), 1);
        due(x.plus(8, 0, 0), BEYOND);
        due(x.plus(0, -1, 0), BEYOND);
        due(x.plus(0, 0, 8), BEYOND);
        promise = 11;
        x.whole(0, 7);
        due(x.minus(1, 0), 8);
        due(x.integer(1), -7);
        due(x.minus(1, 1), 8);
        due(x.integer(1), 7);
        x.heap(0, 4);
        due(x.minus(0, 0), 5);
        dueWords(x, 0, "*4");
        text(x, 0, "{3,{4|1}|{0|-2}}");
        x.minus(0, 0);
        dueWords(x, 0, "{{2|0}|-3,{-1|-4}}");
        due(x.minus(8, 0), BEYOND);
        due(x.minus(0, 8), BEYOND);
        due(x.minus(0, -1), BEYOND);
        // A negative may have more bytes: here one more for each of 24 digits.
        UppityGames y = new UppityGames();
        y.whole(0, 1);
        text(y, 1, "{2|1}");
        y.made(2, 1 | 2, 1);
        y.made(3, 1 | 4, 1);
        y.made(4, 1, 4 | 8);
        y.made(5, 16, 1);
        y.made(6, 16, 32);
        due(y.made(7, 1, 64), 10);
        due(y.slot(7, 6), 77);
        due(y.minus(1, 7), FULL);
        dueWords(y, 1, "{2|1}");
    }

    private static void optionAndMove() {
        promise = 12;
        UppityGames x = new UppityGames();
        x.ups(0, 1, 1);
        due(x.option(1, 0, 0, 0), 2);
        dueWords(x, 1, "*");
        due(x.option(1, 0, 0, 1), 1);
        dueWords(x, 1, "0");
        due(x.option(1, 0, 1, 0), 1);
        due(x.option(1, 0, 1, 1), NONE);
        due(x.option(1, 0, 0, 2), NONE);
        due(x.option(1, 0, 0, -1), NONE);
        due(x.option(1, 0, 0, LEAST), NONE);
        due(x.option(1, 0, 0, MOST), NONE);
        due(x.option(1, 0, 2, 0), BEYOND);
        due(x.option(1, 0, -1, 0), BEYOND);
        due(x.option(8, 0, 0, 0), BEYOND);
        due(x.option(1, 8, 0, 0), BEYOND);
        due(x.option(-1, 0, 0, 99), BEYOND);
        x.heap(2, 9);
        for (int i = 0; i < 9; i++) {
            // Of *9 they stand as *, 0, *2, *3, ..: * and 0 by their bytes.
            due(x.option(3, 2, i & 1, i), i == 0 ? 2 : i == 1 ? 1 : i + 1);
        }
        due(x.option(2, 2, 1, 8), 9);
        x.whole(2, -3);
        due(x.option(2, 2, 1, 0), 3);
        due(x.integer(2), -2);
        due(x.option(2, 2, 0, 0), NONE);
        promise = 13;
        due(x.move(4, 2), 3);
        due(x.order(4, 2), 0);
        due(x.integer(4), -2);
        x.whole(2, 1);
        due(x.integer(4), -2);
        int past = x.count(3);
        due(x.move(4, 4), 3);
        due(x.count(3), Math.min(past + 1, 8));
        due(x.move(8, 0), BEYOND);
        due(x.move(0, 8), BEYOND);
        due(x.move(-1, -1), BEYOND);
    }

    private static void undo() {
        promise = 14;
        UppityGames x = new UppityGames();
        due(x.undo(), NONE);
        for (int n = 1; n <= 9; n++) {
            x.whole(3, n);
            due(x.count(3), Math.min(n, 8));
        }
        for (int n = 8; n >= 1; n--) {
            due(x.undo(), n - 1);
            due(x.integer(3), n);
        }
        // The ninth act back is lost.
        due(x.undo(), NONE);
        due(x.integer(3), 1);
        UppityGames y = new UppityGames();
        y.heap(0, 2);
        y.ups(1, 1, 0);
        y.flower(2, 1, 1, 0);
        y.made(3, 1, 1);
        y.plus(4, 0, 1);
        y.minus(5, 1);
        y.option(6, 0, 0, 0);
        due(y.count(3), 7);
        y.move(7, 0);
        due(y.count(3), 8);
        for (int n = 7; n >= 0; n--) {
            due(y.undo(), n);
            due(y.slot(n, 0), 1);
        }
        y.born(3, -1, 0);
        due(y.count(3), 0);
        y.born(3, 5, 0);
        due(y.count(3), 1);
        y.weight(0, 0);
        due(y.count(3), 2);
        text(y, 0, "2");
        due(y.count(3), 3);
        y.whole(0, 99);
        y.option(0, 0, 1, 0);
        text(y, 0, "{");
        text(y, 0, "12");
        due(y.count(3), 3);
        // Into the same slot thrice: taken back one by one.
        due(y.undo(), 2);
        due(y.undo(), 1);
        due(y.undo(), 0);
        due(y.slot(0, 0), 1);
    }

    private static void order() {
        promise = 15;
        UppityGames x = new UppityGames();
        x.whole(0, 2);
        x.whole(1, 3);
        x.heap(2, 1);
        x.heap(3, 2);
        x.ups(4, 1, 0);
        x.ups(5, 2, 1);
        due(x.order(0, 1), -1);
        due(x.order(1, 0), 1);
        due(x.order(1, 1), 0);
        due(x.order(2, 3), 2);
        due(x.order(2, 7), 2);
        due(x.order(4, 7), 1);
        due(x.order(7, 4), -1);
        due(x.order(4, 2), 2);
        due(x.order(4, 3), 1);
        due(x.order(5, 7), 1);
        due(x.order(4, 0), -1);
        due(x.order(8, 0), BEYOND);
        due(x.order(0, 8), BEYOND);
        due(x.order(-1, MOST), BEYOND);
        text(x, 6, "{3|1}");
        due(x.order(6, 0), 2);
        due(x.order(6, 7), 1);
        due(x.order(6, 1), 2);
        x.whole(7, 4);
        due(x.order(6, 7), -1);
    }

    private static void outcomeAndFar() {
        promise = 16;
        UppityGames x = new UppityGames();
        x.heap(0, 1);
        x.ups(1, 1, 0);
        x.ups(2, -1, 0);
        x.whole(3, 9);
        x.whole(4, -9);
        x.heap(5, 9);
        due(x.outcome(0, 0), 0);
        due(x.outcome(0, 7), 2);
        due(x.outcome(1, 0), 2);
        due(x.outcome(1, 1), 1);
        due(x.outcome(1, 2), 0);
        due(x.outcome(2, 2), -1);
        due(x.outcome(1, 5), 1);
        // Sums that no slot could hold are told all the same.
        due(x.outcome(3, 3), 1);
        due(x.outcome(4, 5), -1);
        due(x.outcome(3, 4), 0);
        due(x.outcome(8, 0), BEYOND);
        due(x.outcome(0, -1), BEYOND);
        promise = 17;
        due(x.far(7), 2);
        due(x.far(5), 2);
        due(x.far(1), 1);
        due(x.far(2), -1);
        due(x.far(3), 1);
        due(x.far(4), -1);
        x.ups(6, 1, 1);
        due(x.far(6), 1);
        due(x.far(8), BEYOND);
        due(x.far(-1), BEYOND);
    }

    private static void weight() {
        promise = 18;
        UppityGames x = new UppityGames();
        due(x.weight(0, 7), 1);
        due(x.integer(0), 0);
        x.ups(1, 3, 1);
        due(x.weight(0, 1), 1);
        due(x.integer(0), 3);
        due(x.slot(1, 5), 1);
        due(x.weight(2, 0), STATE);
        due(x.integer(2), 0);
        due(x.weight(8, 0), BEYOND);
        due(x.weight(0, 8), BEYOND);
        due(x.weight(-1, 0), BEYOND);
        UppityGames y = new UppityGames();
        // Options with the weights 3 and -3 leave {3 - 2 | -3 + 2}.
        y.ups(0, 3, 0);
        y.ups(1, -3, 0);
        due(y.made(2, 1, 2), 9);
        due(y.weight(3, 2), 0);
        dueWords(y, 3, "{1|-1}");
        due(y.slot(3, 0), 4);
        due(y.atomic(2), NONE);
        due(y.ahead(2), 0);
        due(y.count(3), 4);
    }

    private static void atomicAndAhead() {
        promise = 19;
        UppityGames x = new UppityGames();
        for (int n = -4; n <= 4; n++) {
            x.ups(0, n, 0);
            due(x.atomic(0), n);
            promise = 20;
            due(x.ahead(0), n >= 2 ? 1 : n <= -2 ? -1 : 0);
            promise = 19;
            x.ups(0, n, 1);
            due(x.atomic(0), n);
        }
        for (int n = 0; n <= 9; n++) {
            x.heap(0, n);
            due(x.atomic(0), 0);
        }
        x.whole(0, 1);
        due(x.atomic(0), STATE);
        due(x.atomic(8), BEYOND);
        due(x.atomic(-1), BEYOND);
        x.flower(0, 2, 3, 0);
        due(x.atomic(0), 1);
        x.flower(0, 2, 0, 3);
        due(x.atomic(0), -1);
        x.flower(0, 3, 2, 1);
        due(x.atomic(0), 1);
        promise = 20;
        x.whole(0, -1);
        due(x.ahead(0), STATE);
        due(x.ahead(8), BEYOND);
        due(x.ahead(-1), BEYOND);
        // Who is two ahead wins, whoever moves first.
        x.ups(1, 2, 1);
        due(x.ahead(1), 1);
        due(x.slot(1, 4), 1);
        // One ahead is not enough.
        x.ups(1, 1, 1);
        due(x.ahead(1), 0);
        due(x.slot(1, 4), 2);
    }

    private static void garden() {
        promise = 21;
        UppityGames x = new UppityGames();
        due(x.garden(0), 0);
        due(x.garden(255), 0);
        x.ups(0, 4, 0);
        x.ups(1, 4, 1);
        x.ups(2, -3, 0);
        x.heap(3, 9);
        due(x.garden(1), 4);
        due(x.garden(3), 8);
        due(x.garden(7), 5);
        due(x.garden(255), 5);
        due(x.garden(4), -3);
        UppityGames y = new UppityGames();
        y.ups(0, 3, 0);
        y.ups(1, -3, 0);
        y.made(2, 1, 2);
        due(y.garden(3), 0);
        due(y.garden(4), NONE);
        due(y.garden(255), NONE);
        y.whole(7, 1);
        // All are asked for SMALL ahead of any weight.
        due(y.garden(4 + 128), STATE);
        due(y.garden(3 + 128), STATE);
        due(x.garden(256), BEYOND);
        due(x.garden(-1), BEYOND);
        due(x.garden(LEAST), BEYOND);
        due(x.garden(MOST), BEYOND);
    }

    private static void reply() {
        promise = 22;
        UppityGames x = new UppityGames();
        x.heap(0, 5);
        x.heap(1, 2);
        // From *5 to *2; that is the third by its words: *, 0, *2.
        due(x.reply(0, 1, 0, 0), 0);
        due(x.reply(0, 1, 0, 1), 2);
        due(x.reply(1, 0, 1, 0), 1);
        due(x.reply(1, 0, 1, 1), 2);
        due(x.reply(0, 0, 1, 0), NONE);
        due(x.reply(2, 2, 0, 0), NONE);
        x.heap(1, 1);
        // From *5 to *: the first by its words.
        due(x.reply(0, 1, 0, 1), 0);
        x.heap(1, 0);
        // From *5 to 0: the second one.
        due(x.reply(0, 1, 0, 1), 1);
        x.whole(3, 1);
        due(x.reply(3, 2, 0, 0), 0);
        due(x.reply(3, 2, 0, 1), 0);
        due(x.reply(3, 2, 1, 0), NONE);
        // Right has a move in *, and loses by it.
        x.heap(4, 1);
        due(x.reply(3, 4, 1, 0), NONE);
        due(x.reply(0, 1, 2, 0), BEYOND);
        due(x.reply(0, 1, -1, 0), BEYOND);
        due(x.reply(0, 1, 0, 2), BEYOND);
        due(x.reply(0, 1, 0, -1), BEYOND);
        due(x.reply(8, 1, 0, 0), BEYOND);
        due(x.reply(0, 8, 0, 0), BEYOND);
    }

    private static void fight() {
        promise = 23;
        UppityGames x = new UppityGames();
        due(x.fight(0, 1, 0, 0), 0);
        due(x.fight(0, 1, 0, 1), 0);
        due(x.fight(0, 1, 1, 0), 1);
        x.whole(0, 9);
        x.whole(1, -9);
        // 9 and -9: each can move nine times; who is first can't at last.
        due(x.fight(0, 1, 0, 0), 0);
        due(x.fight(0, 1, 0, 1), 18);
        due(x.fight(0, 1, 1, 0), 1);
        due(x.fight(0, 1, 1, 1), 18);
        due(x.fight(0, 0, 1, 0), 1);
        due(x.fight(0, 0, 1, 1), 0);
        // Left's one move, then right can't.
        due(x.fight(0, 0, 0, 0), 1);
        due(x.fight(0, 0, 0, 1), 1);
        x.heap(2, 1);
        due(x.fight(2, 3, 0, 0), 1);
        due(x.fight(2, 3, 0, 1), 1);
        due(x.fight(2, 2, 0, 0), 0);
        due(x.fight(2, 2, 0, 1), 2);
        // Right has no reply in 1 and *, so moves * to 0; left then 1 to 0; right can't.
        x.whole(4, 1);
        due(x.fight(4, 2, 1, 0), 1);
        due(x.fight(4, 2, 1, 1), 2);
        due(x.fight(8, 0, 0, 0), BEYOND);
        due(x.fight(0, 8, 0, 0), BEYOND);
        due(x.fight(0, 0, 2, 0), BEYOND);
        due(x.fight(0, 0, -1, 0), BEYOND);
        due(x.fight(0, 0, 0, 2), BEYOND);
        due(x.fight(0, 0, 0, -1), BEYOND);
    }

    private static void plays() {
        promise = 24;
        UppityGames x = new UppityGames();
        due(x.plays(0, 0, 0), MISSING);
        x.sheet(0, 8, 3);
        due(x.plays(0, 0, 0), 0);
        due(x.plays(0, 0, 1), 0);
        x.heap(0, 3);
        // All numbers are 0: *3 to *, to 0, and none.
        due(x.plays(0, 0, 0), 2);
        due(x.plays(0, 0, 1), 0);
        x.put(0, 0, 2);
        x.put(0, 1, 3);
        due(x.plays(0, 0, 0), 1);
        due(x.plays(0, 0, 1), 2);
        x.put(0, 1, -1);
        due(x.plays(0, 0, 0), 1);
        x.whole(1, 3);
        x.sheet(1, 32, 24);
        // Left moves; right has no move in 2.
        due(x.plays(1, 1, 0), 1);
        due(x.plays(1, 1, 1), 1);
        x.whole(1, -3);
        due(x.plays(1, 1, 0), 0);
        due(x.plays(1, 1, 1), -1);
        x.sheet(2, 16, 0);
        due(x.plays(2, 0, 0), 0);
        due(x.plays(2, 0, 1), 2);
        // Done in thought alone.
        due(x.slot(0, 7), 3);
        due(x.plays(4, 0, 0), BEYOND);
        due(x.plays(-1, 0, 0), BEYOND);
        due(x.plays(3, 8, 0), BEYOND);
        due(x.plays(3, 0, 2), BEYOND);
        due(x.plays(3, 0, -1), BEYOND);
        due(x.plays(3, 0, 1), MISSING);
    }

    private static void born() {
        promise = 25;
        UppityGames x = new UppityGames();
        int[] many = {1, 2, 7, 67};
        for (int day = 0; day < 4; day++) {
            due(x.born(day, -1, 99), many[day]);
            due(x.born(day, many[day], 0), NONE);
            due(x.born(day, MOST, 0), NONE);
        }
        // The last by day 1 is 0, as * is ahead of it.
        int[] lastDays = {0, 0, 2, 3};
        for (int day = 0; day < 4; day++) {
            x.born(day, many[day] - 1, 0);
            due(x.slot(0, 1), lastDays[day]);
        }
        String[] two = {"*", "0", "*2", "{*|0}", "{0|*}", "{*,0|0}", "{0|*,0}"};
        for (int i = 0; i < 7; i++) {
            x.born(2, i, 1);
            dueWords(x, 1, two[i]);
        }
        due(x.born(0, 0, 1), 1);
        due(x.born(1, 0, 1), 2);
        due(x.born(4, 0, 0), BEYOND);
        due(x.born(-1, 0, 0), BEYOND);
        due(x.born(3, -2, 0), BEYOND);
        due(x.born(3, LEAST, 0), BEYOND);
        due(x.born(3, 0, 8), BEYOND);
        due(x.born(3, 0, -1), BEYOND);
        due(x.born(3, 99, 8), BEYOND);
    }

    private static void place() {
        promise = 26;
        UppityGames x = new UppityGames();
        due(x.place(0, 0), 0);
        due(x.place(1, 0), 1);
        due(x.place(3, 0), 1);
        for (int i = 0; i < 67; i++) {
            x.born(3, i, 2);
            due(x.place(3, 2), i);
            due(x.slot(2, 5), 1);
        }
        x.heap(1, 2);
        due(x.place(2, 1), 2);
        due(x.place(1, 1), NONE);
        x.heap(1, 4);
        due(x.place(3, 1), NONE);
        x.whole(1, 1);
        due(x.place(3, 1), NONE);
        due(x.place(4, 0), BEYOND);
        due(x.place(-1, 0), BEYOND);
        due(x.place(0, 8), BEYOND);
        due(x.place(0, -1), BEYOND);
    }

    private static void feed() {
        promise = 27;
        UppityGames x = new UppityGames();
        due(x.feed(0x2a2aL, 1), 1);
        due(x.game(0), 2);
        // -*-*3
        due(x.feed(0x332a2d2aL << 8 | '-', 5), 5);
        due(x.count(2), 5);
        due(x.game(0), -12);
        due(x.feed(0, 0), BEYOND);
        due(x.feed(0, 9), BEYOND);
        due(x.feed(0, -1), BEYOND);
        due(x.feed(-1L, LEAST), BEYOND);
        for (int i = 1; i <= 14; i++) {
            due(x.feed(-1L, 8), 8 * i);
        }
        due(x.feed(0, 7), 119);
        due(x.feed(0, 2), FULL);
        due(x.count(2), 119);
        due(x.feed(0, 1), 120);
        due(x.feed(0, 1), FULL);
        due(x.feed(0, 8), FULL);
        due(x.feed(0, 9), BEYOND);
        due(x.count(2), 120);
        due(x.game(0), -10);
        due(x.count(2), 0);
        // The lowest byte is the first one.
        due(x.feed('1' | '+' << 8 | '2' << 16, 3), 3);
        due(x.game(0), 4);
        due(x.integer(0), 3);
    }

    private static void game() {
        promise = 28;
        UppityGames x = new UppityGames();
        due(text(x, 0, "9"), 10);
        due(text(x, 0, "07"), 8);
        due(x.integer(0), 7);
        due(text(x, 0, "00"), 1);
        due(text(x, 0, "*"), 2);
        due(text(x, 0, "*0"), 1);
        due(text(x, 0, "*09"), 10);
        due(text(x, 0, "^"), 3);
        dueWords(x, 0, "{0|*}");
        due(text(x, 0, "-^"), 3);
        dueWords(x, 0, "{*|0}");
        due(text(x, 0, "{|}"), 1);
        due(text(x, 0, "{0|}"), 2);
        due(x.integer(0), 1);
        due(text(x, 0, "{|0}"), 2);
        due(x.integer(0), -1);
        due(text(x, 0, "1+*"), 3);
        dueWords(x, 0, "{1|1}");
        // A - ends with its U: -1+2 is 1.
        due(text(x, 0, "-1+2"), 2);
        due(x.integer(0), 1);
        due(text(x, 0, "-{1+2|}+9"), 6);
        due(x.integer(0), 5);
        // Up is above *3, down below 0; of {up | down} each option is answered.
        due(text(x, 0, "{*2+*,^|-^,0}"), 2);
        dueWords(x, 0, "*");
        due(text(x, 0, "{{{{{|}|}|}|}|}"), 5);
        due(text(x, 0, "-----5"), 6);
        due(x.integer(0), -5);
        due(text(x, 0, "-----1+-----2"), 4);
        // Words that are told again are the same game.
        x.flower(1, 2, 2, 1);
        due(text(x, 2, words(x, 1)), x.slot(1, 0));
        due(x.order(1, 2), 0);
        due(x.game(8), BEYOND);
        due(x.feed('3', 1), 1);
        due(x.game(-1), BEYOND);
        due(x.game(MOST), BEYOND);
        due(x.count(2), 1);
        due(x.game(3), 4);
        due(x.integer(3), 3);
    }

    private static String words(UppityGames x, int s) {
        StringBuilder words = new StringBuilder();
        for (int i = 0; i < x.slot(s, 6); i++) {
            words.append((char) x.word(s, i));
        }
        return words.toString();
    }

    private static void faults() {
        promise = 28;
        UppityGames x = new UppityGames();
        x.whole(0, 4);
        int acts = x.count(3);
        String[] texts = {"", "+", " 1", "1 ", "1+", "1++1", "13", "99", "123", "1+13", "*13", "*123", "*+", "**",
            "^1", "11*", "{", "{1", "{1|", "{1|2", "{1}", "{1|2|", "{1,|2}", "{,1|2}", "{|,}", "{1|2,}", "}", "|", ",",
            "1,2", "{1||2}", "-", "--", "------1", "{{{{{{|}", "-{-{-{", "{-{-{0|}|}|}1", "\u00e91", "a", "{1|2}3", "-13",
            "{-----1|}", "{----1|}+-----1+------1"};
        int[] faults = {0, 0, 0, 1, 2, 2, 0, 0, 2, 2, 1, 3, 2, 1,
            1, 2, 1, 2, 3, 4, 2, 4, 3, 1, 2, 5, 0, 0, 0,
            1, 3, 1, 2, 5, 5, 5, 12, 0, 0, 5, 1,
            5, 21};
        for (int i = 0; i < texts.length; i++) {
            int before = wrong;
            due(text(x, 0, texts[i]), -10 - faults[i]);
            if (wrong > before) {
                System.out.println("  the text is " + texts[i]);
            }
            due(x.count(2), 0);
        }
        due(x.integer(0), 4);
        due(x.count(3), acts);
        for (int k = 1; k <= 6; k++) {
            due(x.told(k), 0);
        }
        due(text(x, 0, repeat("1+", 60)), -130);
        due(text(x, 0, repeat("-1+", 40)), -130);
        due(text(x, 0, repeat("0+", 59) + "12"), FULL);
        due(text(x, 0, repeat("0+", 59) + "3"), 4);
    }

    private static void fullTexts() {
        promise = 28;
        UppityGames x = new UppityGames();
        x.whole(0, 4);
        String[] texts = {"10", "12", "*10", "*12", "-12", "9+1", "9+1+-1", "*8+*7", "{9|9}", "{12|12}+-{12|12}",
            "{9|}", "-10+10", "{9+1|9+1}"};
        for (String told : texts) {
            int before = wrong;
            due(text(x, 0, told), FULL);
            if (wrong > before) {
                System.out.println("  the text is " + told);
            }
            due(x.count(2), 0);
        }
        due(x.integer(0), 4);
        due(x.count(3), 1);
        due(x.told(4), texts.length);
        // From the left: 9 and -1 ahead of 1.
        due(text(x, 0, "9+-1+1"), 10);
        // A fault is told, though a game ahead of it is too wide.
        due(text(x, 0, "12+"), -13);
        due(text(x, 0, "{9|9}{"), -15);
        due(x.told(4), texts.length);
    }

    private static void sheet() {
        promise = 29;
        UppityGames x = new UppityGames();
        due(x.sheet(0, 8, 24), 1);
        due(x.at(0, 23), 0);
        due(x.at(0, 24), BEYOND);
        due(x.sheet(1, 16, 0), 1);
        due(x.at(1, 0), BEYOND);
        due(x.sheet(3, 32, 1), 1);
        due(x.count(5), 3);
        x.put(0, 3, 7);
        due(x.sheet(0, 8, 24), 1);
        due(x.at(0, 3), 0);
        due(x.sheet(0, 0, LEAST), 1);
        due(x.sheet(1, 0, MOST), 1);
        due(x.at(0, 3), MISSING);
        due(x.count(5), 1);
        for (int bits : new int[] {-1, 1, 7, 9, 24, 33, 64, LEAST, MOST}) {
            due(x.sheet(0, bits, 1), BEYOND);
        }
        due(x.sheet(4, 8, 1), BEYOND);
        due(x.sheet(-1, 8, 1), BEYOND);
        due(x.sheet(-1, 8, -1), BEYOND);
        due(x.sheet(0, 9, -1), BEYOND);
        due(x.sheet(0, 8, -1), STATE);
        due(x.sheet(0, 8, LEAST), STATE);
        due(x.sheet(0, 8, 25), BEYOND);
        due(x.sheet(0, 8, MOST), BEYOND);
        due(x.at(0, 0), MISSING);
        due(x.sheet(3, 8, -1), STATE);
        due(x.at(3, 0), 0);
    }

    private static void putAndAt() {
        promise = 30;
        UppityGames x = new UppityGames();
        due(x.put(0, 0, 1), MISSING);
        x.sheet(0, 8, 3);
        x.sheet(1, 16, 3);
        x.sheet(2, 32, 3);
        due(x.put(0, 2, 100), 1);
        due(x.at(0, 2), 100);
        due(x.put(0, 3, 1), BEYOND);
        due(x.put(0, -1, 1), BEYOND);
        due(x.put(0, LEAST, 1), BEYOND);
        due(x.put(0, MOST, 1), BEYOND);
        due(x.put(4, 0, 1), BEYOND);
        due(x.put(-1, 0, 1), BEYOND);
        due(x.put(3, -1, 1), MISSING);
        promise = 31;
        int[] told = {0, 1, 127, 256, 300, 65536 + 5, -1, 128, 255, 32767, 32768, LEAST, MOST};
        int[] eight = {0, 1, 127, 0, 44, 5, -1, -128, -1, -1, 0, 0, -1};
        int[] sixteen = {0, 1, 127, 256, 300, 5, -1, 128, 255, 32767, -32768, 0, -1};
        for (int i = 0; i < told.length; i++) {
            x.put(0, 0, told[i]);
            x.put(1, 0, told[i]);
            x.put(2, 0, told[i]);
            due(x.at(0, 0), eight[i]);
            due(x.at(1, 0), sixteen[i]);
            due(x.at(2, 0), told[i]);
        }
        due(x.at(0, 1), 0);
        x.put(2, 1, BEYOND);
        int beyond = x.told(1);
        due(x.at(2, 1), BEYOND);
        // A number as low as an error is none.
        due(x.told(1), beyond);
        due(x.at(2, 3), BEYOND);
        due(x.told(1), beyond + 1);
        due(x.at(2, -1), BEYOND);
        due(x.at(4, 0), BEYOND);
        due(x.at(-1, 0), BEYOND);
        due(x.at(3, 99), MISSING);
    }

    private static void copy() {
        promise = 32;
        UppityGames x = new UppityGames();
        x.sheet(0, 8, 6);
        x.sheet(1, 8, 3);
        x.sheet(2, 16, 6);
        for (int i = 0; i < 6; i++) {
            x.put(0, i, i + 1);
        }
        due(x.copy(0, 0, 0, 2, 4), 4);
        dueRow(x, 0, 1, 2, 1, 2, 3, 4);
        due(x.copy(0, 2, 0, 0, 4), 4);
        dueRow(x, 0, 1, 2, 3, 4, 3, 4);
        due(x.copy(0, 3, 1, 1, 2), 2);
        dueRow(x, 1, 0, 4, 3);
        due(x.copy(0, 6, 1, 3, 0), 0);
        due(x.copy(0, 7, 1, 3, 0), BEYOND);
        due(x.copy(0, 6, 1, 4, 0), BEYOND);
        due(x.copy(0, 0, 1, 0, 4), BEYOND);
        due(x.copy(1, 0, 0, 0, 4), BEYOND);
        due(x.copy(0, 0, 1, 0, -1), BEYOND);
        due(x.copy(0, -1, 1, 0, 1), BEYOND);
        due(x.copy(0, 0, 1, -1, 1), BEYOND);
        due(x.copy(0, 1, 1, 0, MOST), BEYOND);
        due(x.copy(0, MOST, 1, 0, 1), BEYOND);
        due(x.copy(0, MOST, 1, MOST, MOST), BEYOND);
        due(x.copy(0, LEAST, 1, LEAST, LEAST), BEYOND);
        due(x.copy(0, 0, 2, 0, 1), KIND);
        due(x.copy(0, 0, 2, 0, -1), KIND);
        due(x.copy(0, 0, 3, 0, -1), MISSING);
        due(x.copy(3, 0, 0, 0, 1), MISSING);
        due(x.copy(3, 0, 3, 0, 1), MISSING);
        due(x.copy(4, 0, 3, 0, 1), BEYOND);
        due(x.copy(3, 0, -1, 0, 1), BEYOND);
        dueRow(x, 0, 1, 2, 3, 4, 3, 4);
        dueRow(x, 1, 0, 4, 3);
    }

    private static void dueRow(UppityGames x, int sheet, int... row) {
        for (int i = 0; i < row.length; i++) {
            due(x.at(sheet, i), row[i]);
        }
    }

    private static void imageAndRestore() {
        promise = 33;
        UppityGames x = new UppityGames();
        due(x.restore(), NONE);
        due(x.image(), 8);
        x.whole(0, 3);
        due(x.image(), 11);
        due(x.count(3), 1);
        x.whole(0, 5);
        x.heap(7, 2);
        promise = 34;
        due(x.restore(), 11);
        due(x.integer(0), 3);
        due(x.slot(7, 0), 1);
        due(x.count(3), 0);
        due(x.undo(), NONE);
        x.whole(1, 9);
        due(x.count(1), 20);
        due(x.restore(), 11);
        due(x.integer(1), 0);
        x.sheet(0, 8, 3);
        x.feed('1', 1);
        x.restore();
        due(x.count(2), 1);
        due(x.count(5), 1);
        UppityGames y = new UppityGames();
        y.whole(0, 2);
        due(y.restore(), NONE);
        due(y.integer(0), 2);
        due(y.count(3), 1);
        due(y.told(2), 1);
    }

    private static void count() {
        promise = 35;
        UppityGames x = new UppityGames();
        int[] fresh = {8, 8, 0, 0, 1, 0};
        for (int what = 0; what < 6; what++) {
            due(x.count(what), fresh[what]);
        }
        x.whole(0, 1);
        x.heap(1, 2);
        x.heap(2, 2);
        x.ups(3, 1, 0);
        text(x, 4, "{0|*}");
        x.feed(0, 3);
        x.sheet(2, 8, 0);
        int[] then = {7, 2 + 3 + 3 + 3 + 3 + 3, 3, 5, 4, 1};
        for (int what = 0; what < 6; what++) {
            due(x.count(what), then[what]);
        }
        for (int what : new int[] {-1, 6, LEAST, MOST}) {
            due(x.count(what), BEYOND);
        }
    }

    private static void told() {
        promise = 36;
        UppityGames x = new UppityGames();
        x.slot(8, 0);
        x.undo();
        x.option(0, 0, 0, 0);
        x.whole(0, 1);
        x.atomic(0);
        x.ahead(0);
        x.garden(1);
        x.whole(0, 9);
        x.made(0, 1, 1);
        x.sheet(0, 8, 1);
        x.sheet(1, 16, 1);
        x.copy(0, 0, 1, 0, 1);
        x.at(3, 0);
        x.put(3, 0, 0);
        x.plays(3, 0, 0);
        x.copy(0, 0, 3, 0, 1);
        int[] due = {0, 1, 2, 3, 1, 1, 4};
        for (int k = 1; k <= 6; k++) {
            due(x.told(k), due[k]);
        }
        for (int k : new int[] {0, 7, -1, LEAST, MOST}) {
            due(x.told(k), BEYOND);
        }
        due(x.told(1), 6);
        x.count(6);
        due(x.told(1), 7);
        // One error an act, though more than one would do.
        x.copy(9, -1, 9, -1, -1);
        due(x.told(1), 8);
    }
}
