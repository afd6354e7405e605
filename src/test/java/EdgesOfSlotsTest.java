/** Promises 1 to 14, and HISTORY (Terms, 3): what slots hold and held; each sentence that names an edge. */
public final class EdgesOfSlotsTest {
    public static void main(String[] args) throws java.io.IOException {
        run();
        Edges.end("EdgesOfSlotsTest");
    }

    static void run() {
        newObject();
        slot();
        integer();
        word();
        whole();
        heap();
        ups();
        flower();
        made();
        plus();
        minus();
        option();
        move();
        undo();
        historyOfActs();
        historyOfNone();
        eightAtMost();
        emptied();
    }

    private static void newObject() {
        Edges.says(1, "All SLOTS hold 0; THE TAPE, HISTORY are empty, no image is kept.");
        UppityGames other = new UppityGames();
        other.whole(0, 3);
        other.feed('1', 1);
        other.image();
        other.sheet(0, 8, 1);
        UppityGames x = new UppityGames();
        for (int s = 0; s < 8; s++) {
            Edges.due(x.integer(s), 0);
            Edges.due(x.slot(s, 0), 1);
        }
        Edges.due(x.count(2), 0);
        Edges.due(x.count(3), 0);
        Edges.due(x.undo(), Edges.NONE);
        Edges.due(x.restore(), Edges.NONE);
        Edges.due(x.game(0), -10);
        for (int k = 3; k <= 6; k++) {
            Edges.due(x.told(k), 0);
        }
        for (int sheet = 0; sheet < 4; sheet++) {
            Edges.due(x.at(sheet, 0), Edges.MISSING);
        }
    }

    private static void slot() {
        UppityGames x = new UppityGames();
        x.whole(1, -2);
        x.heap(2, 1);
        x.heap(3, 9);
        x.ups(4, 1, 1);
        Edges.text(x, 5, "{1|1}");
        Edges.text(x, 6, "{3|-1}");
        int[][] all = {
            {1, 0, 0, 0, 0, 1, 1, 0, 1},
            {3, 2, 0, 1, -1, 0, 2, -1, 1},
            {2, 1, 1, 1, 2, 1, 1, 1, 0},
            {10, 9, 9, 9, 2, 1, 2, 9, 0},
            {3, 2, 2, 1, 2, 1, 7, -1, 0},
            {3, 2, 1, 1, 1, 0, 5, -1, 0},
            {6, 4, 1, 1, 2, 0, 6, -1, 0}};
        String[] says = {"what 0 WIDTH", "1 BIRTHDAY", "2 how many OPTIONS of LEFT", "3 of RIGHT", "4 OUTCOME",
            "5 1 if it is SMALL, else 0", "6 how many bytes its WORDS have", "7 n if it is the HEAP *n, else -1",
            "8 1 if it is an INTEGER, else 0."};
        for (int what = 0; what < 9; what++) {
            Edges.says(2, says[what]);
            for (int s = 0; s < all.length; s++) {
                Edges.due(x.slot(s, what), all[s][what]);
            }
        }
        Edges.says(2, "7 n if it is the HEAP *n, else -1");
        x.whole(6, 1);
        Edges.due(x.slot(6, 7), -1);
        x.ups(6, 1, 0);
        Edges.due(x.slot(6, 7), -1);
        Edges.says(2, "BEYOND");
        Edges.dueWithin(x, 0, 0, 7, "slot", 0, 0);
        Edges.dueWithin(x, 1, 0, 8, "slot", 0, 0);
    }

    private static void integer() {
        UppityGames x = new UppityGames();
        Edges.says(3, "The INTEGER that a SLOT holds.");
        for (int n = -9; n <= 9; n++) {
            x.whole(0, n);
            Edges.due(x.integer(0), n);
        }
        Edges.says(3, "NONE: it is none.");
        for (String none : new String[] {"*", "^", "{0|1}", "{1|-1}", "{1|1}", "{0|{0|-1}}"}) {
            Edges.text(x, 0, none);
            Edges.due(x.integer(0), Edges.NONE);
        }
        Edges.says(3, "BEYOND");
        Edges.dueWithin(x, 0, 0, 7, "integer", 0);
    }

    private static void word() {
        UppityGames x = new UppityGames();
        Edges.says(4, "Byte i (from 0) of WORDS of the GAME in a SLOT.");
        x.ups(1, -1, 0);
        Edges.due(x.word(0, 0), 48);
        Edges.due(x.word(1, 0), 123);
        Edges.due(x.word(1, 1), 42);
        Edges.due(x.word(1, 2), 124);
        Edges.due(x.word(1, 3), 48);
        Edges.due(x.word(1, 4), 125);
        Edges.says(4, "NONE: no such byte.");
        for (int i : new int[] {-1, 5, 100, Edges.LEAST, Edges.MOST}) {
            Edges.due(x.word(1, i), Edges.NONE);
        }
        Edges.due(x.word(0, 1), Edges.NONE);
        Edges.says(4, "BEYOND: slot.");
        Edges.dueWithin(x, 0, 0, 7, "word", 0, 0);
    }

    private static void whole() {
        UppityGames x = new UppityGames();
        Edges.says(5, "A SLOT holds the INTEGER n (-9 .. 9): WIDTH.");
        Edges.due(x.whole(7, 9), 10);
        Edges.due(x.integer(7), 9);
        Edges.due(x.whole(7, -9), 10);
        Edges.due(x.integer(7), -9);
        Edges.due(x.whole(7, 0), 1);
        Edges.due(x.integer(7), 0);
        Edges.says(5, "BEYOND");
        Edges.dueWithin(x, 0, 0, 7, "whole", 0, 0);
        Edges.dueWithin(x, 1, -9, 9, "whole", 0, 0);
    }

    private static void heap() {
        UppityGames x = new UppityGames();
        Edges.says(6, "A SLOT holds the HEAP *n (n 0 .. 9): WIDTH.");
        Edges.due(x.heap(7, 9), 10);
        Edges.due(x.slot(7, 7), 9);
        Edges.due(x.heap(7, 1), 2);
        Edges.due(x.heap(7, 0), 1);
        Edges.due(x.integer(7), 0);
        Edges.says(6, "BEYOND");
        Edges.dueWithin(x, 0, 0, 7, "heap", 0, 0);
        Edges.dueWithin(x, 1, 0, 9, "heap", 0, 0);
    }

    private static void ups() {
        UppityGames x = new UppityGames();
        Edges.says(7, "A SLOT holds the SUM of n UPS (n -4 .. 4; below 0 of their NEGATIVES) and *m (m 0 .. 5): WIDTH.");
        String[] texts = {"0", "^", "^+^", "^+^+^", "^+^+^+^"};
        for (int n = 0; n <= 4; n++) {
            for (int m = 0; m <= 5; m++) {
                Edges.text(x, 1, texts[n] + "+*" + m);
                Edges.due(x.ups(0, n, m), x.slot(1, 0));
                Edges.due(x.order(0, 1), 0);
                x.minus(1, 1);
                Edges.due(x.ups(2, -n, m), x.slot(1, 0));
                Edges.due(x.order(2, 1), 0);
            }
        }
        Edges.says(7, "FULL.");
        // The widest of them just fits; none of these 54 is FULL.
        Edges.due(x.ups(0, 4, 5), 10);
        Edges.due(x.ups(0, -4, 5), 10);
        Edges.due(x.told(4), 0);
        Edges.says(7, "BEYOND");
        UppityGames y = new UppityGames();
        Edges.dueWithin(y, 0, 0, 7, "ups", 0, 0, 0);
        Edges.dueWithin(y, 1, -4, 4, "ups", 0, 0, 0);
        Edges.dueWithin(y, 2, 0, 5, "ups", 0, 0, 0);
        Edges.dueWithin(y, 2, 0, 5, "ups", 0, 4, 0);
    }

    private static void flower() {
        UppityGames x = new UppityGames();
        Edges.says(8, "A SLOT holds the FLOWER of a stem (1 .. 4), blue and red petals (0 .. 3 each): WIDTH.");
        Edges.due(x.flower(7, 1, 0, 0), 2);
        Edges.due(x.flower(7, 1, 3, 0), 5);
        Edges.dueWords(x, 7, "{0,{0,{*,0|0}|0}|0}");
        Edges.due(x.flower(7, 1, 0, 3), 5);
        Edges.dueWords(x, 7, "{0|0,{0|0,{0|*,0}}}");
        Edges.due(x.flower(7, 4, 3, 3), 5);
        Edges.due(x.slot(7, 7), 4);
        Edges.says(8, "FULL.");
        // None of these 64 is.
        for (int n = 0; n < 64; n++) {
            int width = x.flower(0, 1 + (n & 3), n >> 2 & 3, n >> 4);
            Edges.due(width >= 2 && width <= 10 ? width : 0, x.slot(0, 0));
        }
        Edges.due(x.told(4), 0);
        Edges.says(8, "BEYOND");
        UppityGames y = new UppityGames();
        Edges.dueWithin(y, 0, 0, 7, "flower", 0, 1, 0, 0);
        Edges.dueWithin(y, 1, 1, 4, "flower", 0, 1, 0, 0);
        Edges.dueWithin(y, 2, 0, 3, "flower", 0, 1, 0, 0);
        Edges.dueWithin(y, 3, 0, 3, "flower", 0, 1, 0, 0);
    }

    private static void made() {
        UppityGames x = new UppityGames();
        Edges.says(9, "A SLOT holds the GAME whose OPTIONS of LEFT are those that SLOTS of a set (0 .. 255) hold, of RIGHT those of another set: WIDTH.");
        Edges.due(x.made(1, 0, 0), 1);
        Edges.due(x.made(1, 255, 0), 2);
        Edges.due(x.integer(1), 1);
        Edges.due(x.made(2, 0, 1), 2);
        Edges.due(x.integer(2), -1);
        Edges.due(x.made(3, 2, 4), 4);
        Edges.dueWords(x, 3, "{1|-1}");
        Edges.due(x.made(3, 4, 2), 1);
        Edges.due(x.integer(3), 0);
        x.whole(7, 4);
        Edges.due(x.made(6, 128, 128), 6);
        Edges.dueWords(x, 6, "{4|4}");
        Edges.due(x.made(6, 63, 128), 3);
        Edges.due(x.integer(6), 2);
        Edges.due(x.move(6, 0), 1);
        Edges.due(x.move(7, 0), 1);
        // What the slot held itself is an option, too.
        Edges.due(x.made(1, 2, 0), 3);
        Edges.due(x.made(1, 2, 2), 4);
        Edges.dueWords(x, 1, "{2|2}");
        Edges.due(x.made(7, 255, 255), 6);
        Edges.dueWords(x, 7, "{{2|2}|-1}");
        Edges.says(9, "BEYOND");
        Edges.dueWithin(x, 0, 0, 7, "made", 0, 0, 0);
        Edges.dueWithin(x, 1, 0, 255, "made", 7, 0, 0);
        Edges.dueWithin(x, 2, 0, 255, "made", 7, 0, 0);
        Edges.says(9, "FULL");
        UppityGames y = new UppityGames();
        y.whole(0, 9);
        Edges.due(y.made(0, 1, 0), Edges.FULL);
        Edges.due(y.made(0, 1, 1), Edges.FULL);
        Edges.due(y.integer(0), 9);
        Edges.due(y.count(3), 1);
        // {0|9} is 1: only what it is in the end has to fit.
        Edges.due(y.made(1, 2, 1), 2);
        Edges.due(y.integer(1), 1);
    }

    private static void plus() {
        UppityGames x = new UppityGames();
        Edges.says(10, "A SLOT holds the SUM of what two SLOTS hold: WIDTH.");
        x.whole(0, 4);
        x.whole(1, 5);
        Edges.due(x.plus(2, 0, 1), 10);
        Edges.due(x.integer(2), 9);
        Edges.due(x.plus(0, 0, 0), 9);
        Edges.due(x.integer(0), 8);
        Edges.due(x.plus(7, 6, 6), 1);
        Edges.says(10, "FULL");
        Edges.due(x.plus(7, 1, 1), Edges.FULL);
        Edges.due(x.plus(7, 2, 2), Edges.FULL);
        Edges.due(x.integer(7), 0);
        Edges.says(10, "BEYOND");
        UppityGames y = new UppityGames();
        Edges.dueWithin(y, 0, 0, 7, "plus", 0, 0, 0);
        Edges.dueWithin(y, 1, 0, 7, "plus", 0, 0, 0);
        Edges.dueWithin(y, 2, 0, 7, "plus", 0, 0, 0);
    }

    private static void minus() {
        UppityGames x = new UppityGames();
        Edges.says(11, "A SLOT holds the NEGATIVE of what a SLOT holds: WIDTH.");
        x.whole(0, 9);
        Edges.due(x.minus(1, 0), 10);
        Edges.due(x.integer(1), -9);
        Edges.due(x.integer(0), 9);
        Edges.due(x.minus(0, 0), 10);
        Edges.due(x.integer(0), -9);
        Edges.due(x.minus(2, 3), 1);
        Edges.says(11, "FULL");
        // Of 77 bytes; of the other way about 101, as - comes ahead of 24 digits.
        Edges.text(x, 4, "{{1|{1,{1|1}|1,{1|1}}}|{1|1},{1,{1|1}|1,{1|1}},{1,{1|1},{1,{1|1}|1,{1|1}}|*}}");
        Edges.due(x.slot(4, 6), 77);
        Edges.due(x.minus(4, 4), Edges.FULL);
        Edges.due(x.slot(4, 6), 77);
        Edges.says(11, "BEYOND");
        Edges.dueWithin(x, 0, 0, 7, "minus", 0, 0);
        Edges.dueWithin(x, 1, 0, 7, "minus", 7, 0);
    }

    private static void option() {
        UppityGames x = new UppityGames();
        Edges.says(12, "A SLOT holds OPTION i of one (who) of what SLOT a holds: WIDTH.");
        Edges.text(x, 0, "{2,{3|0}|-1,{-1|-2}}");
        Edges.due(x.option(1, 0, 0, 0), 3);
        Edges.due(x.integer(1), 2);
        Edges.due(x.option(1, 0, 0, 1), 5);
        Edges.dueWords(x, 1, "{3|0}");
        Edges.due(x.option(1, 0, 1, 0), 2);
        Edges.due(x.integer(1), -1);
        Edges.due(x.option(1, 0, 1, 1), 4);
        Edges.dueWords(x, 1, "{-1|-2}");
        Edges.due(x.slot(0, 0), 9);
        Edges.says(12, "NONE: no such OPTION.");
        for (int i : new int[] {-1, 2, 31, 32, 33, Edges.LEAST, Edges.MOST}) {
            Edges.due(x.option(1, 0, 0, i), Edges.NONE);
            Edges.due(x.option(1, 0, 1, i), Edges.NONE);
        }
        Edges.due(x.option(1, 2, 0, 0), Edges.NONE);
        x.whole(2, 3);
        Edges.due(x.option(1, 2, 1, 0), Edges.NONE);
        Edges.dueWords(x, 1, "{-1|-2}");
        Edges.due(x.option(2, 2, 0, 0), 3);
        Edges.due(x.integer(2), 2);
        Edges.says(12, "BEYOND: slots, who.");
        UppityGames y = new UppityGames();
        for (int s = 0; s < 8; s++) {
            y.heap(s, 3);
        }
        Edges.dueWithin(y, 0, 0, 7, "option", 0, 1, 0, 0);
        Edges.dueWithin(y, 1, 0, 7, "option", 0, 1, 0, 0);
        Edges.dueWithin(y, 2, 0, 1, "option", 0, 1, 0, 0);
    }

    private static void move() {
        UppityGames x = new UppityGames();
        Edges.says(13, "A SLOT holds what SLOT a holds: WIDTH.");
        x.whole(0, 9);
        Edges.due(x.move(7, 0), 10);
        Edges.due(x.integer(7), 9);
        Edges.due(x.move(0, 1), 1);
        Edges.due(x.integer(0), 0);
        Edges.due(x.integer(7), 9);
        Edges.due(x.move(7, 7), 10);
        Edges.says(13, "BEYOND");
        Edges.dueWithin(x, 0, 0, 7, "move", 0, 0);
        Edges.dueWithin(x, 1, 0, 7, "move", 0, 0);
    }

    private static void undo() {
        UppityGames x = new UppityGames();
        Edges.says(14, "A SLOT holds once more what it held ahead of the latest act in HISTORY, which is taken out there: how many are left in HISTORY.");
        x.whole(3, 1);
        x.whole(3, 2);
        x.heap(5, 3);
        Edges.due(x.undo(), 2);
        Edges.due(x.slot(5, 0), 1);
        Edges.due(x.integer(3), 2);
        Edges.due(x.count(3), 2);
        Edges.due(x.undo(), 1);
        Edges.due(x.integer(3), 1);
        // What is taken out isn't kept for another undo(), nor is the undo() itself.
        x.whole(4, 7);
        Edges.due(x.undo(), 1);
        Edges.due(x.integer(4), 0);
        Edges.due(x.undo(), 0);
        Edges.due(x.integer(3), 0);
        Edges.says(14, "NONE: it is empty.");
        Edges.due(x.undo(), Edges.NONE);
        Edges.due(x.undo(), Edges.NONE);
        Edges.due(x.told(2), 2);
    }

    /** Each of these acts, though most of them bring the same GAME. */
    private static void historyOfActs() {
        UppityGames x = new UppityGames();
        Edges.says(0, "(whole, heap, ups, flower, made, plus, minus, option, move, weight, born, game; also the same GAME)");
        x.whole(0, 0);
        Edges.due(x.count(3), 1);
        x.heap(0, 0);
        Edges.due(x.count(3), 2);
        x.ups(0, 0, 0);
        Edges.due(x.count(3), 3);
        x.made(0, 0, 0);
        Edges.due(x.count(3), 4);
        x.plus(0, 1, 2);
        Edges.due(x.count(3), 5);
        x.minus(0, 0);
        Edges.due(x.count(3), 6);
        x.move(0, 0);
        Edges.due(x.count(3), 7);
        x.weight(0, 0);
        Edges.due(x.count(3), 8);
        for (int left = 7; left >= 0; left--) {
            Edges.due(x.undo(), left);
        }
        x.flower(0, 1, 0, 0);
        Edges.due(x.count(3), 1);
        x.option(0, 0, 0, 0);
        Edges.due(x.count(3), 2);
        x.born(0, 0, 0);
        Edges.due(x.count(3), 3);
        Edges.text(x, 0, "0");
        Edges.due(x.count(3), 4);
        Edges.due(x.undo(), 3);
        Edges.due(x.undo(), 2);
        Edges.due(x.undo(), 1);
        Edges.due(x.slot(0, 7), 1);
        Edges.due(x.undo(), 0);
        Edges.due(x.slot(0, 7), 0);
    }

    private static void historyOfNone() {
        UppityGames x = new UppityGames();
        Edges.says(0, "HISTORY: of each act by which a SLOT came to hold a GAME");
        x.whole(0, 9);
        x.sheet(0, 8, 1);
        Edges.text(x, 1, "12");
        Edges.text(x, 1, "{");
        x.made(1, 1, 1);
        x.plus(1, 0, 0);
        x.whole(1, 10);
        x.heap(8, 0);
        x.option(1, 0, 1, 0);
        x.weight(1, 0);
        x.born(3, -1, 1);
        x.born(3, 67, 1);
        x.atomic(1);
        x.reply(0, 0, 0, 0);
        x.fight(0, 0, 0, 0);
        x.plays(0, 0, 0);
        x.place(0, 0);
        x.put(0, 0, 1);
        x.image();
        Edges.due(x.count(3), 1);
        Edges.due(x.undo(), 0);
        Edges.due(x.integer(0), 0);
    }

    private static void eightAtMost() {
        UppityGames x = new UppityGames();
        Edges.says(0, "8 at most (of more the oldest is lost)");
        for (int n = 1; n <= 9; n++) {
            x.whole(0, n);
            Edges.due(x.count(3), n < 8 ? n : 8);
        }
        x.heap(1, 9);
        Edges.due(x.count(3), 8);
        Edges.due(x.undo(), 7);
        Edges.due(x.slot(1, 0), 1);
        for (int n = 8; n >= 2; n--) {
            Edges.due(x.undo(), n - 2);
            Edges.due(x.integer(0), n);
        }
        Edges.due(x.undo(), Edges.NONE);
        Edges.due(x.integer(0), 2);
        // Room comes back by undo().
        for (int n = 1; n <= 8; n++) {
            x.whole(0, -n);
        }
        Edges.due(x.undo(), 7);
        x.whole(1, 4);
        Edges.due(x.count(3), 8);
        for (int n = 7; n >= 0; n--) {
            Edges.due(x.undo(), n);
        }
        Edges.due(x.integer(0), 2);
        Edges.due(x.integer(1), 0);
    }

    private static void emptied() {
        UppityGames x = new UppityGames();
        Edges.says(0, "restore() empties it.");
        x.whole(0, 3);
        Edges.due(x.restore(), Edges.NONE);
        Edges.due(x.count(3), 1);
        x.image();
        Edges.due(x.count(3), 1);
        x.whole(0, 4);
        x.restore();
        Edges.due(x.count(3), 0);
        Edges.due(x.undo(), Edges.NONE);
        Edges.due(x.integer(0), 3);
        x.whole(1, 5);
        Edges.due(x.undo(), 0);
        Edges.due(x.integer(1), 0);
    }
}
