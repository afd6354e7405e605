/** Terms, 2, and promises 15 to 26: FAR, WEIGHT, AHEAD, FLOWER, REPLY, FIGHT, BORN; each sentence that names an edge. */
public final class EdgesOfWeightsTest {
    private static final String HOT = "{^+^+^|-^+-^+-^}";

    public static void main(String[] args) throws java.io.IOException {
        run();
        Edges.end("EdgesOfWeightsTest");
    }

    static void run() {
        far();
        weights();
        noInteger();
        greatest();
        least();
        ahead();
        flowers();
        order();
        weight();
        atomicAndAhead();
        garden();
        replies();
        reply();
        fights();
        plays();
        born();
        bornArguments();
        place();
    }

    private static void far() {
        Edges.says(0, "FAR is *10.");
        UppityGames x = new UppityGames();
        // *9 is no less far than any other star that a slot can hold; FAR is a further one.
        for (int n = 0; n <= 9; n++) {
            x.heap(0, n);
            Edges.due(x.far(0), 2);
        }
        Edges.says(17, "What a SLOT holds, and FAR: as order().");
        String[] texts = {"^", "-^", "1", "-1", "^+*", "{^|*}", "{^|-^}", "{0|{0|-1}}", "{1|-1}", "{9|0}", "{*+^,0|{*|0}}", "{^+^|0}"};
        int[] orders = {1, -1, 1, -1, 1, 1, 2, 2, 2, 2, 2, 1};
        for (int i = 0; i < texts.length; i++) {
            Edges.text(x, 0, texts[i]);
            Edges.due(x.far(0), orders[i]);
        }
        Edges.says(17, "BEYOND");
        Edges.dueWithin(x, 0, 0, 7, "far", 0);
    }

    private static void weights() {
        UppityGames x = new UppityGames();
        Edges.says(0, "WEIGHT of a SMALL GAME G, a GAME: 0 of 0.");
        Edges.due(x.atomic(0), 0);
        Edges.due(x.weight(1, 0), 1);
        Edges.due(x.integer(1), 0);
        Edges.says(0, "let W have as OPTIONS of LEFT SUMS of -2 and the WEIGHT of each OPTION of LEFT of G, as OPTIONS of RIGHT SUMS of 2");
        dueWeight(x, "{^+^+^+^|-^+-^+-^}", "{2|-1}");
        dueWeight(x, "{^|-^+-^+-^+-^}", "{-1|-2}");
        dueWeight(x, "{*,^+^|{0|-^+-^+-^}}", "{0|{0|1}}");
        Edges.says(0, "else 0.");
        // Of * W is 0, too, and no OPTION of RIGHT of it, 2, is at most 1; but * is confused with FAR.
        dueWeight(x, "*", "0");
        dueWeight(x, "*9", "0");
        dueWeight(x, "{^|-^}", "0");
        dueWeight(x, "{0|{0|-^+-^+-^}}", "0");
        dueWeight(x, "{{^+^+^|0}|0}", "0");
    }

    private static void dueWeight(UppityGames x, String text, String words) {
        Edges.text(x, 0, text);
        Edges.due(x.slot(0, 5), 1);
        boolean whole = words.indexOf('{') < 0 && words.indexOf('*') < 0;
        Edges.due(x.weight(1, 0), whole ? 1 : 0);
        Edges.dueWords(x, 1, words);
        Edges.due(x.atomic(0), whole ? Integer.parseInt(words) : Edges.NONE);
    }

    private static void noInteger() {
        Edges.says(0, "If W isn't EQUAL to an INTEGER, WEIGHT is W.");
        UppityGames x = new UppityGames();
        dueWeight(x, HOT, "{1|-1}");
        dueWeight(x, "{^+^|-^+-^}", "*");
        // Though greater than FAR.
        dueWeight(x, "{^+^+^+^|*}", "{2|2}");
        dueWeight(x, "{^+^+^|*}", "{1|2}");
        dueWeight(x, "{*|-^+-^+-^+-^}", "{-2|-2}");
        dueWeight(x, "{^+^|*+-^}", "{0|1}");
    }

    private static void greatest() {
        Edges.says(0, "if G is GREATER than FAR, it is the greatest INTEGER that none of those OPTIONS of RIGHT of W is AT MOST");
        UppityGames x = new UppityGames();
        dueWeight(x, "^", "1");
        dueWeight(x, "^+*", "1");
        dueWeight(x, "^+^+^+^+^+^+^", "7");
        // W is 1: its right option 2 bars 2; then 3 bars 3.
        dueWeight(x, "{^+^|0}", "1");
        dueWeight(x, "{^+^|^}", "2");
        dueWeight(x, "{^+^+^|^+^}", "3");
        // Its right options 3 and 4: the lower one bars.
        dueWeight(x, "{^+^+^|^+^+*,^}", "2");
        // 3 and 2 in the order of their words.
        dueWeight(x, "{0|^,{*,0|-^}}", "1");
        // A right option that is no integer: {2|3} is at most 3, and not at most 2; {3|4} likewise.
        dueWeight(x, "{0|{^+^|-^+*}}", "2");
        dueWeight(x, "{0|{^+^+^|*}}", "3");
    }

    private static void least() {
        Edges.says(0, "if G is LESS than FAR, the least INTEGER that is AT MOST none of those OPTIONS of LEFT of W");
        UppityGames x = new UppityGames();
        dueWeight(x, "-^", "-1");
        dueWeight(x, "-^+*", "-1");
        dueWeight(x, "-^+-^+-^+-^+-^+-^+-^", "-7");
        dueWeight(x, "{0|-^+-^}", "-1");
        dueWeight(x, "{-^|-^+-^}", "-2");
        dueWeight(x, "{-^+-^|-^+-^+-^}", "-3");
        dueWeight(x, "{-^+-^+*,-^|-^+-^+-^}", "-2");
        dueWeight(x, "{-^,{^|*,0}|0}", "-1");
        dueWeight(x, "{{^+*|-^+-^}|0}", "-2");
        dueWeight(x, "{{*|-^+-^+-^}|0}", "-3");
    }

    private static void ahead() {
        Edges.says(0, "AHEAD: 1 if WEIGHT is an INTEGER of 2 or more, -1 if it is one of -2 or less, else 0.");
        UppityGames x = new UppityGames();
        int[] due = {-1, -1, -1, 0, 0, 0, 1, 1, 1};
        for (int n = -4; n <= 4; n++) {
            x.ups(0, n, 0);
            Edges.due(x.ahead(0), due[n + 4]);
            x.ups(0, n, 1);
            Edges.due(x.ahead(0), due[n + 4]);
        }
        // No integer, though all of it is 2 or more (-2 or less).
        Edges.text(x, 0, "{^+^+^+^|*}");
        Edges.due(x.ahead(0), 0);
        Edges.text(x, 0, "{*|-^+-^+-^+-^}");
        Edges.due(x.ahead(0), 0);
    }

    private static void flowers() {
        UppityGames x = new UppityGames();
        Edges.says(0, "OPTIONS of both are *0 .. *(s - 1)");
        String[] heaps = {"*", "*2", "*3", "*4"};
        for (int stem = 1; stem <= 4; stem++) {
            x.flower(0, stem, 0, 0);
            Edges.dueWords(x, 0, heaps[stem - 1]);
        }
        Edges.says(0, "of LEFT also FLOWER of s, b - 1, r, if b is above 0");
        x.flower(0, 1, 1, 0);
        Edges.dueWords(x, 0, "{*,0|0}");
        x.flower(0, 1, 2, 0);
        Edges.dueWords(x, 0, "{0,{*,0|0}|0}");
        x.flower(0, 2, 1, 0);
        Edges.dueWords(x, 0, "{*,0,*2|*,0}");
        Edges.says(0, "of RIGHT also that of s, b, r - 1, if r is above 0");
        x.flower(0, 1, 0, 1);
        Edges.dueWords(x, 0, "{0|*,0}");
        x.flower(0, 1, 0, 2);
        Edges.dueWords(x, 0, "{0|0,{0|*,0}}");
        x.flower(0, 2, 0, 1);
        Edges.dueWords(x, 0, "{*,0|*,0,*2}");
        x.flower(0, 3, 2, 1);
        Edges.due(x.atomic(0), 1);
        x.flower(0, 3, 1, 2);
        Edges.due(x.atomic(0), -1);
        x.flower(0, 3, 2, 2);
        Edges.dueWords(x, 0, "*3");
    }

    private static void order() {
        UppityGames x = new UppityGames();
        Edges.says(15, "0 EQUAL, -1 LESS, 1 GREATER, 2 CONFUSED");
        x.ups(0, 1, 0);
        x.ups(1, 1, 1);
        x.ups(2, 2, 1);
        Edges.due(x.order(0, 0), 0);
        Edges.due(x.order(0, 1), 2);
        Edges.due(x.order(1, 0), 2);
        // ^+* is less than ^+^ by ^+*, which is confused with 0; and less than ^+^+* by ^.
        x.ups(3, 2, 0);
        Edges.due(x.order(1, 3), 2);
        Edges.due(x.order(1, 2), -1);
        Edges.due(x.order(2, 1), 1);
        Edges.says(15, "BEYOND");
        Edges.dueWithin(x, 0, 0, 7, "order", 0, 0);
        Edges.dueWithin(x, 1, 0, 7, "order", 0, 0);
        Edges.says(16, "OUTCOME of the SUM of what two SLOTS hold.");
        UppityGames y = new UppityGames();
        y.whole(0, 9);
        y.heap(1, 9);
        y.whole(2, -9);
        // The sum itself would be too wide for a slot.
        Edges.due(y.outcome(0, 0), 1);
        Edges.due(y.outcome(0, 1), 1);
        Edges.due(y.outcome(2, 1), -1);
        Edges.due(y.outcome(0, 2), 0);
        Edges.due(y.outcome(1, 1), 0);
        Edges.due(y.outcome(1, 3), 2);
        Edges.due(y.outcome(3, 4), 0);
        Edges.says(16, "BEYOND");
        Edges.dueWithin(y, 0, 0, 7, "outcome", 0, 0);
        Edges.dueWithin(y, 1, 0, 7, "outcome", 0, 0);
    }

    private static void weight() {
        UppityGames x = new UppityGames();
        Edges.says(18, "1 if it is an INTEGER, else 0.");
        x.ups(0, 2, 0);
        Edges.due(x.weight(1, 0), 1);
        Edges.due(x.integer(1), 2);
        Edges.text(x, 0, HOT);
        Edges.due(x.weight(0, 0), 0);
        Edges.dueWords(x, 0, "{1|-1}");
        Edges.says(18, "FULL.");
        // As wide as a game can be, and another one; their weights are less wide, as are all that a search has found.
        Edges.due(Edges.text(x, 3, "^+^+^+^+^+^+^+^"), 10);
        Edges.due(x.weight(3, 3), 1);
        Edges.due(x.integer(3), 8);
        Edges.due(Edges.text(x, 3, "{^+^|-^+-^+-^+-^}"), 9);
        Edges.due(x.weight(3, 3), 0);
        Edges.dueWords(x, 3, "{0|-2}");
        Edges.says(18, "STATE: that isn't SMALL.");
        Edges.due(x.weight(2, 0), Edges.STATE);
        Edges.due(x.weight(2, 1), Edges.STATE);
        Edges.due(x.integer(2), 0);
        Edges.due(x.weight(1, 2), 1);
        Edges.due(x.integer(1), 0);
        Edges.says(18, "BEYOND");
        UppityGames y = new UppityGames();
        Edges.dueWithin(y, 0, 0, 7, "weight", 0, 0);
        Edges.dueWithin(y, 1, 0, 7, "weight", 0, 0);
    }

    private static void atomicAndAhead() {
        UppityGames x = new UppityGames();
        x.whole(1, 1);
        Edges.text(x, 2, HOT);
        Edges.text(x, 3, "{0|{0|-1}}");
        Edges.says(19, "STATE: that isn't SMALL. NONE: it is no INTEGER.");
        Edges.due(x.atomic(0), 0);
        Edges.due(x.atomic(1), Edges.STATE);
        Edges.due(x.atomic(3), Edges.STATE);
        Edges.due(x.atomic(2), Edges.NONE);
        Edges.says(19, "BEYOND");
        Edges.dueWithin(x, 0, 0, 7, "atomic", 0);
        Edges.says(20, "STATE: that isn't SMALL.");
        Edges.due(x.ahead(0), 0);
        Edges.due(x.ahead(1), Edges.STATE);
        Edges.due(x.ahead(3), Edges.STATE);
        Edges.due(x.ahead(2), 0);
        Edges.says(20, "BEYOND");
        Edges.dueWithin(x, 0, 0, 7, "ahead", 0);
    }

    private static void garden() {
        UppityGames x = new UppityGames();
        Edges.says(21, "All WEIGHTS of what SLOTS of a set (0 .. 255) hold together.");
        Edges.due(x.garden(0), 0);
        Edges.due(x.garden(255), 0);
        int[] ups = {4, -3, 2, 1, -4, 4, 0, -1};
        for (int s = 0; s < 8; s++) {
            x.ups(s, ups[s], 1);
        }
        Edges.due(x.garden(0), 0);
        int all = 0;
        for (int s = 0; s < 8; s++) {
            Edges.due(x.garden(1 << s), ups[s]);
            all += ups[s];
            Edges.due(x.garden((2 << s) - 1), all);
        }
        Edges.says(21, "STATE: one isn't SMALL. NONE: one is no INTEGER.");
        Edges.text(x, 2, HOT);
        x.whole(5, 1);
        x.whole(7, -1);
        Edges.due(x.garden(1 + 2), 1);
        Edges.due(x.garden(4), Edges.NONE);
        Edges.due(x.garden(1 + 2 + 4 + 8), Edges.NONE);
        Edges.due(x.garden(32), Edges.STATE);
        Edges.due(x.garden(128 + 1), Edges.STATE);
        Edges.due(x.garden(4 + 32), Edges.STATE);
        Edges.due(x.garden(255), Edges.STATE);
        Edges.due(x.garden(255 - 128 - 32 - 4), 4 - 3 + 1 - 4);
        Edges.says(21, "BEYOND");
        Edges.dueWithin(new UppityGames(), 0, 0, 255, "garden", 0);
    }

    private static void replies() {
        UppityGames x = new UppityGames();
        Edges.says(0, "the first of the moves (OPTIONS of the one in the first SLOT by their numbers, then those in the second)");
        // In 1 and 2 left wins by each move.
        x.whole(0, 1);
        x.whole(1, 2);
        Edges.due(x.reply(0, 1, 0, 0), 0);
        Edges.due(x.reply(1, 0, 0, 0), 0);
        x.heap(1, 4);
        x.ups(2, 3, 0);
        // In 1 and *4 by each of the five moves; in *4 and 1 likewise.
        Edges.due(x.reply(1, 0, 0, 0), 0);
        Edges.due(x.reply(1, 0, 0, 1), 0);
        Edges.due(x.reply(0, 1, 0, 0), 1);
        Edges.due(x.reply(0, 1, 0, 1), 0);
        x.heap(3, 5);
        x.heap(4, 1);
        // *5 and *: *5 to * is the move; with 1 for *: to 0, which is the second of *5.
        Edges.due(x.reply(3, 4, 1, 0), 0);
        Edges.due(x.reply(3, 4, 1, 1), 0);
        Edges.due(x.reply(4, 3, 1, 0), 1);
        Edges.due(x.reply(4, 3, 1, 1), 0);
        Edges.due(x.reply(3, 7, 0, 1), 1);
        Edges.due(x.reply(7, 3, 0, 0), 1);
        Edges.due(x.reply(7, 3, 0, 1), 1);
        Edges.says(0, "behind which the other one, who moves then, doesn't win");
        // Right's only good one of *, 0, *2 in *3 is that to *2.
        x.heap(3, 3);
        x.heap(4, 2);
        Edges.due(x.reply(3, 4, 1, 0), 0);
        Edges.due(x.reply(3, 4, 1, 1), 2);
        // Left wins, whoever moves; right has moves, and none does.
        Edges.due(x.reply(2, 1, 1, 0), Edges.NONE);
        Edges.due(x.reply(2, 1, 0, 0), 1);
        // Who moves in {2|-2} and {1|-1} takes the greater one.
        Edges.text(x, 5, "{1|-1}");
        Edges.text(x, 6, "{2|-2}");
        Edges.due(x.reply(5, 6, 0, 0), 1);
        Edges.due(x.reply(6, 5, 1, 0), 0);
    }

    private static void reply() {
        UppityGames x = new UppityGames();
        Edges.says(22, "NONE: there is none.");
        Edges.due(x.reply(0, 1, 0, 0), Edges.NONE);
        Edges.due(x.reply(0, 1, 1, 1), Edges.NONE);
        x.heap(0, 3);
        Edges.due(x.reply(0, 0, 0, 0), Edges.NONE);
        x.whole(1, 1);
        Edges.due(x.reply(1, 2, 1, 0), Edges.NONE);
        Edges.due(x.reply(1, 2, 0, 0), 0);
        Edges.says(22, "what 0 in which of both (0, 1), 1 the OPTION's number");
        x.heap(2, 7);
        Edges.due(x.reply(0, 2, 0, 0), 1);
        Edges.due(x.reply(0, 2, 0, 1), 3);
        Edges.due(x.reply(2, 0, 0, 0), 0);
        Edges.due(x.reply(2, 0, 0, 1), 3);
        Edges.says(22, "BEYOND");
        Edges.dueWithin(x, 0, 0, 7, "reply", 0, 2, 0, 0);
        Edges.dueWithin(x, 1, 0, 7, "reply", 0, 2, 0, 0);
        Edges.dueWithin(x, 2, 0, 1, "reply", 0, 2, 0, 0);
        Edges.dueWithin(x, 3, 0, 1, "reply", 0, 2, 0, 0);
    }

    private static void fights() {
        UppityGames x = new UppityGames();
        Edges.says(0, "who can't move has lost");
        Edges.due(x.fight(0, 1, 0, 0), 0);
        Edges.due(x.fight(0, 1, 0, 1), 0);
        Edges.due(x.fight(0, 1, 1, 0), 1);
        Edges.due(x.fight(0, 1, 1, 1), 0);
        Edges.says(0, "each by REPLY, or, if there is none, by the first move there is");
        // No reply in *3 and *3: to *, and *; then to 0, and 0. By another first move it would be two.
        x.heap(0, 3);
        Edges.due(x.fight(0, 0, 0, 0), 0);
        Edges.due(x.fight(0, 0, 0, 1), 4);
        // Left has no reply: of * and {*3|0} the first move is * to 0; of {*3|0} and * it is to *3.
        Edges.text(x, 6, "{*3|0}");
        x.heap(7, 1);
        Edges.due(x.fight(7, 6, 0, 0), 0);
        Edges.due(x.fight(7, 6, 0, 1), 2);
        Edges.due(x.fight(6, 7, 0, 0), 0);
        Edges.due(x.fight(6, 7, 0, 1), 4);
        // Left has no move in -2, so * to 0; right -2 to -1; left can't.
        x.whole(1, -2);
        x.heap(2, 1);
        Edges.due(x.fight(1, 2, 0, 0), 0);
        Edges.due(x.fight(1, 2, 0, 1), 2);
        // Right has a reply in both; the first: -2 to -1; then left * to 0; right -1 to 0; left can't.
        Edges.due(x.fight(1, 2, 1, 0), 0);
        Edges.due(x.fight(1, 2, 1, 1), 3);
        // The other way about right's first is * to 0; left can't.
        Edges.due(x.fight(2, 1, 1, 0), 0);
        Edges.due(x.fight(2, 1, 1, 1), 1);
        // Right's reply in * and ^ is ^ to *, not * to 0; then * to 0 is left's first, and right's is the last move.
        x.ups(5, 1, 0);
        Edges.due(x.fight(2, 5, 1, 0), 0);
        Edges.due(x.fight(2, 5, 1, 1), 3);
        Edges.due(x.fight(5, 2, 1, 0), 0);
        Edges.due(x.fight(5, 2, 1, 1), 3);
        Edges.says(23, "what 0 who has lost (0 LEFT, 1 RIGHT), 1 how many moves there were");
        x.whole(3, 9);
        x.whole(4, -9);
        Edges.due(x.fight(3, 4, 0, 0), 0);
        Edges.due(x.fight(3, 4, 0, 1), 18);
        Edges.due(x.fight(3, 4, 1, 0), 1);
        Edges.due(x.fight(3, 4, 1, 1), 18);
        Edges.due(x.fight(3, 3, 0, 0), 1);
        Edges.due(x.fight(3, 3, 0, 1), 1);
        Edges.due(x.fight(3, 3, 1, 1), 0);
        Edges.says(23, "BEYOND");
        Edges.dueWithin(x, 0, 0, 7, "fight", 0, 2, 0, 0);
        Edges.dueWithin(x, 1, 0, 7, "fight", 0, 2, 0, 0);
        Edges.dueWithin(x, 2, 0, 1, "fight", 0, 2, 0, 0);
        Edges.dueWithin(x, 3, 0, 1, "fight", 0, 2, 0, 0);
    }

    private static void plays() {
        UppityGames x = new UppityGames();
        Edges.says(24, "MISSING");
        Edges.due(x.plays(0, 0, 0), Edges.MISSING);
        x.sheet(0, 8, 1);
        x.sheet(0, 0, 1);
        Edges.due(x.plays(0, 0, 1), Edges.MISSING);
        Edges.says(24, "OPTIONS by their numbers, LEFT's and RIGHT's in turn, LEFT's first");
        Edges.text(x, 0, "{2,{3|0}|-1,{-1|-2}}");
        x.sheet(0, 8, 3);
        x.put(0, 0, 1);
        // Left to {3|0}, right to 0, left can't.
        Edges.due(x.plays(0, 0, 0), 2);
        Edges.due(x.plays(0, 0, 1), 0);
        Edges.says(24, "what 0 how many can be done ahead of the first that is no OPTION, 1 OUTCOME of what is left");
        x.put(0, 0, 2);
        Edges.due(x.plays(0, 0, 0), 0);
        Edges.due(x.plays(0, 0, 1), 2);
        x.put(0, 0, -1);
        Edges.due(x.plays(0, 0, 0), 0);
        x.put(0, 0, 1);
        x.put(0, 1, 1);
        Edges.due(x.plays(0, 0, 0), 1);
        Edges.due(x.plays(0, 0, 1), 2);
        x.put(0, 0, 0);
        // 2 is left, where right has no move.
        x.put(0, 1, 0);
        Edges.due(x.plays(0, 0, 0), 1);
        Edges.due(x.plays(0, 0, 1), 1);
        // A number that can't be done ends it, though the next one could.
        x.heap(1, 3);
        x.put(0, 0, 3);
        Edges.due(x.plays(0, 1, 0), 0);
        // As many as the sheet has; none, if it has none.
        x.heap(1, 9);
        x.sheet(1, 16, 3);
        x.put(1, 0, 8);
        x.put(1, 1, 7);
        x.put(1, 2, 6);
        Edges.due(x.plays(1, 1, 0), 3);
        Edges.due(x.plays(1, 1, 1), 2);
        x.sheet(1, 32, 0);
        Edges.due(x.plays(1, 1, 0), 0);
        Edges.due(x.plays(1, 1, 1), 2);
        x.sheet(1, 32, 24);
        for (int i = 0; i < 9; i++) {
            x.put(1, i, i < 7 ? 8 - i : 0);
        }
        // To *8, *7, .., *2, then to * and to 0 (number 0 of *2 is *, of * is 0).
        Edges.due(x.plays(1, 1, 0), 9);
        Edges.due(x.plays(1, 1, 1), 0);
        x.put(1, 0, Edges.LEAST);
        Edges.due(x.plays(1, 1, 0), 0);
        Edges.says(24, "in thought");
        Edges.due(x.slot(1, 7), 9);
        Edges.due(x.at(1, 1), 7);
        Edges.says(24, "BEYOND");
        UppityGames y = new UppityGames();
        for (int sheet = 0; sheet < 4; sheet++) {
            y.sheet(sheet, 8, 1);
        }
        Edges.dueWithin(y, 0, 0, 3, "plays", 0, 0, 0);
        Edges.dueWithin(y, 1, 0, 7, "plays", 0, 0, 0);
        Edges.dueWithin(y, 2, 0, 1, "plays", 0, 0, 0);
    }

    private static void born() {
        UppityGames x = new UppityGames();
        Edges.says(0, "BORN by a day: all SMALL GAMES of that BIRTHDAY or less, by their WORDS as OPTIONS stand.");
        int[] many = {1, 2, 7, 67};
        for (int day = 0; day <= 3; day++) {
            Edges.due(x.born(day, -1, 0), many[day]);
        }
        String[] two = {"*", "0", "*2", "{*|0}", "{0|*}", "{*,0|0}", "{0|*,0}"};
        for (int i = 0; i < 7; i++) {
            Edges.due(x.born(2, i, 0) > 0 ? 1 : 0, 1);
            Edges.dueWords(x, 0, two[i]);
            Edges.due(x.slot(0, 5), 1);
        }
        Edges.due(x.born(0, 0, 0), 1);
        Edges.due(x.born(1, 0, 0), 2);
        Edges.due(x.born(1, 1, 0), 1);
        // By day 3: also those by day 2, each in its place.
        Edges.due(x.born(3, 3, 0), 4);
        Edges.dueWords(x, 0, "*3");
        Edges.due(x.born(3, 4, 0), 3);
        Edges.dueWords(x, 0, "{*|0}");
        UppityGames y = new UppityGames();
        int days = 0;
        for (int i = 0; i < 67; i++) {
            y.born(3, i, 1);
            days += y.slot(1, 1);
            Edges.due(y.slot(1, 5), 1);
            Edges.due(i == 0 || y.slot(0, 6) <= y.slot(1, 6) ? 1 : 0, 1);
            y.move(0, 1);
        }
        Edges.due(days, 1 + 2 * 5 + 3 * 60);
    }

    private static void bornArguments() {
        UppityGames x = new UppityGames();
        Edges.says(25, "i -1: how many they are; else SLOT s holds the i-th of them (from 0): WIDTH.");
        Edges.due(x.born(3, -1, 8), 67);
        Edges.due(x.born(3, -1, Edges.LEAST), 67);
        Edges.due(x.count(3), 0);
        Edges.due(x.born(3, 0, 7), 2);
        Edges.due(x.slot(7, 7), 1);
        Edges.due(x.count(3), 1);
        Edges.says(25, "NONE: no such one.");
        Edges.due(x.born(0, 1, 0), Edges.NONE);
        Edges.due(x.born(1, 2, 0), Edges.NONE);
        Edges.due(x.born(2, 7, 0), Edges.NONE);
        Edges.due(x.born(3, 67, 0), Edges.NONE);
        Edges.due(x.born(3, Edges.MOST, 0), Edges.NONE);
        Edges.due(x.born(3, 66, 0) > 0 ? 1 : 0, 1);
        Edges.says(25, "BEYOND: day, i below -1; slot (i 0 and more).");
        Edges.dueWithin(x, 0, 0, 3, "born", 0, 0, 0);
        Edges.dueWithin(x, 0, 0, 3, "born", 0, -1, 0);
        Edges.dueWithin(x, 2, 0, 7, "born", 3, 0, 0);
        Edges.dueWithin(x, 2, 0, 7, "born", 3, 67, 0);
        Edges.due(x.born(3, -2, 0), Edges.BEYOND);
        Edges.due(x.born(3, Edges.LEAST, 0), Edges.BEYOND);
    }

    private static void place() {
        UppityGames x = new UppityGames();
        Edges.says(26, "Which of those BORN by a day (0 .. 3) a SLOT holds.");
        // First of all calls, and behind one that has made other games.
        Edges.due(new UppityGames().place(3, 0), 1);
        UppityGames y = new UppityGames();
        y.whole(0, 9);
        y.heap(0, 9);
        Edges.due(y.born(3, -1, 0), 67);
        Edges.due(y.place(3, 1), 1);
        Edges.due(y.born(3, 66, 0) > 0 ? y.slot(0, 6) : 0, 29);
        for (int i = 0; i < 67; i++) {
            x.born(3, i, 0);
            Edges.due(x.place(3, 0), i);
        }
        Edges.due(x.place(0, 1), 0);
        Edges.due(x.place(1, 1), 1);
        x.heap(0, 2);
        Edges.due(x.place(2, 0), 2);
        Edges.says(26, "NONE: it is none of them.");
        Edges.due(x.place(1, 0), Edges.NONE);
        Edges.due(x.place(0, 0), Edges.NONE);
        x.heap(0, 4);
        Edges.due(x.place(3, 0), Edges.NONE);
        x.whole(0, 1);
        Edges.due(x.place(3, 0), Edges.NONE);
        x.whole(0, -1);
        Edges.due(x.place(3, 0), Edges.NONE);
        Edges.says(26, "BEYOND");
        Edges.dueWithin(x, 0, 0, 3, "place", 0, 1);
        Edges.dueWithin(x, 1, 0, 7, "place", 3, 0);
    }
}
