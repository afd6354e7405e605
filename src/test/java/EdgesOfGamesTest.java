/** Terms, 1: what a GAME is, how it is kept and told, what a SLOT can hold; each sentence that names an edge. */
public final class EdgesOfGamesTest {
    public static void main(String[] args) throws java.io.IOException {
        run();
        Edges.end("EdgesOfGamesTest");
    }

    static void run() {
        sets();
        games();
        orders();
        sums();
        bettered();
        answered();
        canonical();
        widths();
        birthdays();
        integers();
        heaps();
        small();
        words();
        numbers();
        slots();
        widest();
        wideSums();
        longest();
        outcomes();
    }

    private static void sets() {
        Edges.says(0, "Sets are told by bits.");
        UppityGames x = new UppityGames();
        for (int s = 0; s < 8; s++) {
            x.whole(s, s - 4);
        }
        for (int s = 4; s < 8; s++) {
            Edges.due(x.made(0, 1 << s, 0), s - 4 + 2);
            Edges.due(x.integer(0), s - 4 + 1);
        }
        for (int s = 1; s <= 4; s++) {
            Edges.due(x.made(0, 0, 1 << s), 4 - s + 2);
            Edges.due(x.integer(0), s - 4 - 1);
        }
        x.whole(0, 8);
        Edges.due(x.made(0, 1, 0), 10);
        Edges.due(x.made(0, 0, 0), 1);
    }

    private static void games() {
        Edges.says(0, "0 is the one without any.");
        UppityGames x = new UppityGames();
        Edges.due(x.slot(0, 2), 0);
        Edges.due(x.slot(0, 3), 0);
        Edges.due(x.made(1, 0, 0), 1);
        Edges.due(x.order(1, 0), 0);
        Edges.dueWords(x, 1, "0");
        Edges.dueText(x, "{|}", "0");
        Edges.says(0, "FOLLOWERS of a GAME: itself, its OPTIONS, and FOLLOWERS of these.");
        Edges.due(x.slot(1, 0), 1);
        Edges.due(x.whole(0, 2), 3);
        Edges.due(Edges.text(x, 0, "{0|{0|*}}"), 4);
        Edges.due(Edges.text(x, 0, "{2|-3}"), 7);
    }

    private static void orders() {
        UppityGames x = new UppityGames();
        x.ups(1, 1, 0);
        x.ups(2, 2, 0);
        x.heap(3, 1);
        Edges.text(x, 4, "{1|-1}");
        x.whole(5, 1);
        x.whole(6, -1);
        Edges.says(0, "G EQUALS H, if each is AT MOST the other one");
        Edges.due(x.order(1, 1), 0);
        Edges.due(x.order(0, 7), 0);
        Edges.says(0, "it is LESS, if it is AT MOST H and H isn't AT MOST it; GREATER the other way about");
        Edges.due(x.order(0, 1), -1);
        Edges.due(x.order(1, 0), 1);
        Edges.due(x.order(1, 2), -1);
        Edges.due(x.order(2, 1), 1);
        Edges.due(x.order(6, 5), -1);
        Edges.due(x.order(2, 3), 1);
        Edges.says(0, "else they are CONFUSED.");
        Edges.due(x.order(1, 3), 2);
        Edges.due(x.order(3, 1), 2);
        Edges.due(x.order(3, 0), 2);
        // {1|-1} is confused with each from -1 to 1, these too.
        Edges.due(x.order(4, 5), 2);
        Edges.due(x.order(4, 6), 2);
        x.whole(5, 2);
        Edges.due(x.order(4, 5), -1);
    }

    private static void sums() {
        Edges.says(0, "SUM of G and H: OPTIONS of LEFT are SUMS of one of G's and H, and of G and one of H's; of RIGHT likewise.");
        UppityGames x = new UppityGames();
        Edges.dueText(x, "0+0", "0");
        Edges.dueText(x, "*+*", "0");
        Edges.dueText(x, "1+*", "{1|1}");
        Edges.dueText(x, "*+1", "{1|1}");
        Edges.dueText(x, "{3|1}+{1|0}", "{{4|3}|{2|1}}");
        Edges.dueText(x, "2+-2", "0");
        Edges.dueText(x, "{0|1}+{0|1}", "1");
        Edges.says(0, "NEGATIVE of G: OPTIONS of LEFT are NEGATIVES of its OPTIONS of RIGHT, and the other way about.");
        Edges.dueText(x, "-0", "0");
        Edges.dueText(x, "-*3", "*3");
        Edges.dueText(x, "-^", "{*|0}");
        Edges.dueText(x, "-{5|{2|0}}", "{{0|-2}|-5}");
        Edges.dueText(x, "-{|-4}", "5");
    }

    private static void bettered() {
        UppityGames x = new UppityGames();
        Edges.says(0, "no FOLLOWER has an OPTION of LEFT that is AT MOST another one");
        Edges.dueText(x, "{0,1|}", "2");
        Edges.dueText(x, "{1,0|-1}", "{1|-1}");
        Edges.dueText(x, "{1,{|}+1|-1}", "{1|-1}");
        Edges.dueText(x, "{*2,^+^|-1}", "{{0|{*,0|0}}|-1}");
        Edges.dueText(x, "{{1,0|-1}|-5}", "{{1|-1}|-5}");
        Edges.dueText(x, "{0,*|0}", "{*,0|0}");
        Edges.says(0, "nor an OPTION of RIGHT of which another one is AT MOST");
        Edges.dueText(x, "{|0,-1}", "-2");
        Edges.dueText(x, "{1|-1,0}", "{1|-1}");
        Edges.dueText(x, "{1|-1,{|0}}", "{1|-1}");
        Edges.dueText(x, "{1|*2,-^+-^}", "{1|{{0|*,0}|0}}");
        Edges.dueText(x, "{5|{1|-1,0}}", "{5|{1|-1}}");
        Edges.dueText(x, "{0|*,0}", "{0|*,0}");
        // Unlike slots, equal games.
        UppityGames y = new UppityGames();
        y.whole(1, 1);
        Edges.due(y.made(2, 255, 255), 3);
        Edges.dueWords(y, 2, "{1|0}");
        Edges.due(y.slot(2, 2), 1);
        Edges.due(y.slot(2, 3), 1);
    }

    private static void answered() {
        UppityGames x = new UppityGames();
        Edges.says(0, "nor an OPTION of LEFT with an OPTION of RIGHT that is AT MOST that FOLLOWER");
        Edges.dueText(x, "{*|}", "0");
        Edges.dueText(x, "{^|0}", "*");
        Edges.dueText(x, "{{3|1}|}", "1");
        Edges.dueText(x, "{^|-^}", "*");
        // What stands behind an answer has such an answer itself.
        Edges.dueText(x, "{{5|{{3|1}|0}}|5}", "1");
        Edges.says(0, "nor an OPTION of RIGHT with an OPTION of LEFT that that FOLLOWER is AT MOST");
        Edges.dueText(x, "{|*}", "0");
        Edges.dueText(x, "{0|-^}", "*");
        Edges.dueText(x, "{|{-1|-3}}", "-1");
        Edges.dueText(x, "{-5|{{0|{-1|-3}}|-5}}", "-1");
        // An answer that is confused with the game doesn't count.
        Edges.dueText(x, "{^|*}", "{{0|*}|*}");
        Edges.dueText(x, "{*|-^}", "{*|{*|0}}");
    }

    private static void canonical() {
        Edges.says(0, "To each GAME just one CANONICAL one is EQUAL: all GAMES are kept as these");
        UppityGames x = new UppityGames();
        Edges.dueText(x, "{1|-1}+{1|-1}", "0");
        Edges.dueText(x, "^+^+*", "{0|{0|*}}");
        Edges.dueText(x, "{-5|7}", "0");
        Edges.dueText(x, "{0|1}+{|-1}", "{-2|-1}");
        Edges.dueText(x, "{{1|1}|{1|1}}", "1");
        Edges.dueText(x, "{0,*,*3|0,*,*3}", "*2");
        Edges.says(0, "all that is told of a GAME (OPTIONS, FOLLOWERS, ..) is told of these");
        Edges.due(Edges.text(x, 1, "{0,*,^,-^|9}"), 2);
        int[] one = {2, 1, 1, 0, 1, 0, 1, -1, 1};
        for (int what = 0; what < 9; what++) {
            Edges.due(x.slot(1, what), one[what]);
        }
        Edges.due(x.option(2, 1, 0, 1), Edges.NONE);
        Edges.due(x.option(2, 1, 1, 0), Edges.NONE);
    }

    private static void widths() {
        Edges.says(0, "WIDTH: how many unlike FOLLOWERS.");
        UppityGames x = new UppityGames();
        Edges.due(x.slot(0, 0), 1);
        Edges.due(x.heap(0, 4), 5);
        // 0, * and the game itself, though 0 comes twice.
        Edges.due(Edges.text(x, 0, "{0|*}"), 3);
        Edges.due(Edges.text(x, 0, "{2,{3|0}|-1,{-1|-2}}"), 9);
    }

    private static void birthdays() {
        Edges.says(0, "BIRTHDAY: 0 of 0; else 1 more than the greatest of its OPTIONS.");
        UppityGames x = new UppityGames();
        Edges.due(x.slot(0, 1), 0);
        x.whole(0, 1);
        Edges.due(x.slot(0, 1), 1);
        x.whole(0, -9);
        Edges.due(x.slot(0, 1), 9);
        Edges.text(x, 0, "{3|-1}");
        Edges.due(x.slot(0, 1), 4);
        Edges.text(x, 0, "{1|-3}");
        Edges.due(x.slot(0, 1), 4);
        Edges.text(x, 0, "{0|{0|*}}");
        Edges.due(x.slot(0, 1), 3);
        // Of a game as it is kept, not as it was told.
        Edges.text(x, 0, "{3|-3}+{3|-3}");
        Edges.due(x.slot(0, 1), 0);
    }

    private static void integers() {
        UppityGames x = new UppityGames();
        Edges.says(0, "n above 0 has the one OPTION n - 1 of LEFT, none of RIGHT");
        for (int n = 1; n <= 9; n++) {
            x.whole(0, n);
            Edges.due(x.slot(0, 2), 1);
            Edges.due(x.slot(0, 3), 0);
            x.option(0, 0, 0, 0);
            Edges.due(x.integer(0), n - 1);
        }
        Edges.says(0, "n below 0 the one OPTION n + 1 of RIGHT, none of LEFT");
        for (int n = -1; n >= -9; n--) {
            x.whole(0, n);
            Edges.due(x.slot(0, 2), 0);
            Edges.due(x.slot(0, 3), 1);
            x.option(0, 0, 1, 0);
            Edges.due(x.integer(0), n + 1);
        }
    }

    private static void heaps() {
        UppityGames x = new UppityGames();
        Edges.says(0, "HEAPS *n (n from 0; *0 is 0): OPTIONS of both are *0 .. *(n - 1).");
        Edges.due(x.heap(0, 0), 1);
        Edges.due(x.order(0, 1), 0);
        x.heap(0, 4);
        Edges.due(x.slot(0, 2), 4);
        Edges.due(x.slot(0, 3), 4);
        int[] numbers = {1, 0, 2, 3};
        for (int i = 0; i < 8; i++) {
            x.option(1, 0, i & 1, i >> 1);
            Edges.due(x.slot(1, 7), numbers[i >> 1]);
        }
        Edges.says(0, "UP: its OPTION of LEFT is 0, of RIGHT *1.");
        x.ups(0, 1, 0);
        Edges.due(x.slot(0, 2), 1);
        Edges.due(x.slot(0, 3), 1);
        x.option(1, 0, 0, 0);
        x.option(2, 0, 1, 0);
        Edges.due(x.slot(1, 7), 0);
        Edges.due(x.slot(2, 7), 1);
    }

    private static void small() {
        Edges.says(0, "SMALL: 0, and each GAME with OPTIONS of both, all of which are SMALL.");
        String[] small = {"0", "*", "*9", "^", "-^", "{0|{0|{0|*}}}", "{^+^+^|-^+-^+-^}", "{1|-1}+{1|-1}"};
        String[] others = {"1", "-1", "{1|-1}", "{0|1}", "{0|-1}", "{1|0}", "{{1|0}|0}", "{0|{0|-5}}", "{0|{0|{0|-1}}}"};
        UppityGames x = new UppityGames();
        for (String text : small) {
            Edges.text(x, 0, text);
            Edges.due(x.slot(0, 5), 1);
        }
        for (String text : others) {
            Edges.text(x, 0, text);
            Edges.due(x.slot(0, 5), 0);
        }
    }

    private static void words() {
        UppityGames x = new UppityGames();
        Edges.says(0, "of an INTEGER its digits, - ahead if it is below 0");
        Edges.dueText(x, "0", "0");
        Edges.dueText(x, "1", "1");
        Edges.dueText(x, "9", "9");
        Edges.dueText(x, "-1", "-1");
        Edges.dueText(x, "-9", "-9");
        Edges.says(0, "of a HEAP *n (n above 0) *, and the digits of n, if it is above 1");
        Edges.dueText(x, "*0", "0");
        Edges.dueText(x, "*1", "*");
        Edges.dueText(x, "*2", "*2");
        Edges.dueText(x, "*9", "*9");
        Edges.says(0, "of any other one {, WORDS of its OPTIONS of LEFT, with a , between, |, those of RIGHT likewise, }.");
        Edges.dueText(x, "{0|1}", "{0|1}");
        Edges.dueText(x, "{0,*|0}", "{*,0|0}");
        Edges.dueText(x, "{{3|0},2|{-1|-2},-1}", "{2,{3|0}|-1,{-1|-2}}");
        // Options as a heap has them on one side alone.
        Edges.dueText(x, "{*3,*2,*,0|-1}", "{*,0,*2,*3|-1}");
        Edges.dueText(x, "{1|1}", "{1|1}");
        Edges.says(0, "those with fewer bytes first, of as many as in a dictionary of bytes");
        Edges.dueText(x, "{*3,*2,0,*|-1}", "{*,0,*2,*3|-1}");
        Edges.dueText(x, "{{4|0},{3|1}|-1}", "{{3|1},{4|0}|-1}");
        Edges.dueText(x, "{{2|0},{2|*}|-1}", "{{2|*},{2|0}|-1}");
        Edges.dueText(x, "{1|{0|-2},{*|-2}}", "{1|{*|-2},{0|-2}}");
        Edges.dueText(x, "{{3|0},2|{-1|-2},-1}", "{2,{3|0}|-1,{-1|-2}}");
    }

    private static void numbers() {
        Edges.says(0, "OPTIONS stand, and are numbered 0, 1, .., by their WORDS");
        UppityGames x = new UppityGames();
        Edges.text(x, 0, "{{4|0},{3|1}|-1}");
        Edges.due(x.option(1, 0, 0, 0), 5);
        Edges.dueWords(x, 1, "{3|1}");
        Edges.due(x.option(1, 0, 0, 1), 6);
        Edges.dueWords(x, 1, "{4|0}");
        Edges.due(x.option(1, 0, 0, 2), Edges.NONE);
        Edges.text(x, 0, "{1|{0|-2},{*|-2}}");
        Edges.due(x.option(1, 0, 1, 0), 5);
        Edges.dueWords(x, 1, "{*|-2}");
        // Of *9 they stand as *, 0, *2, .., *9: * is ahead of 0 in a dictionary of bytes.
        x.heap(0, 9);
        for (int i = 0; i < 9; i++) {
            x.option(1, 0, 1, i);
            Edges.due(x.slot(1, 7), i < 2 ? 1 - i : i);
        }
    }

    private static void slots() {
        Edges.says(0, "SLOTS 0 .. 7 each hold a GAME (0 at first)");
        UppityGames x = new UppityGames();
        for (int s = 0; s < 8; s++) {
            Edges.due(x.integer(s), 0);
        }
        for (int s = 0; s < 8; s++) {
            x.whole(s, s + 1);
        }
        for (int s = 0; s < 8; s++) {
            Edges.due(x.integer(s), s + 1);
        }
        for (int s : new int[] {-1, 8, Edges.LEAST, Edges.MOST}) {
            Edges.due(x.integer(s), Edges.BEYOND);
            Edges.due(x.whole(s, 1), Edges.BEYOND);
        }
    }

    private static void widest() {
        Edges.says(0, "with a WIDTH of 10 and WORDS of 100 bytes at most: what would be more is FULL");
        UppityGames x = new UppityGames();
        x.whole(0, 8);
        Edges.due(x.made(1, 1, 0), 10);
        Edges.due(x.made(2, 2, 0), Edges.FULL);
        Edges.due(x.made(1, 1, 1), 10);
        x.whole(0, 4);
        x.whole(1, 5);
        Edges.due(x.plus(2, 0, 1), 10);
        Edges.due(x.plus(3, 1, 1), Edges.FULL);
        x.heap(0, 8);
        x.heap(1, 1);
        x.heap(2, 2);
        Edges.due(x.plus(3, 0, 1), 10);
        Edges.due(x.plus(3, 0, 2), Edges.FULL);
        Edges.due(Edges.text(x, 0, "{5|-4}"), Edges.FULL);
        Edges.due(Edges.text(x, 0, "{4|-4}"), 10);
        Edges.due(x.minus(0, 0), 10);
        Edges.due(Edges.text(x, 0, "9"), 10);
        Edges.due(Edges.text(x, 0, "10"), Edges.FULL);
    }

    /** Two games with some 8 by 8 unlike sums of their followers, and a sum that a slot can hold. */
    private static void wideSums() {
        Edges.says(0, "with a WIDTH of 10 and WORDS of 100 bytes at most: what would be more is FULL");
        String[][] all = {
            {"{2|{{*,{1|*,0}|{*|0}}|-1}}", "{-1|{{-2|{-2|-2}}|{-2|-2},{-2,{-2|-2}|-3}}}", "{{1|{{0|*}|*,{*,0|-1}}}|-2}"},
            {"{{1|{1|*,0},{1,{1|0}|-2}}|-2}", "{{2,{2|2}|1},{4|1,{2|1}}|1}", "{2|{{*,0|-1},{2|-1,{0|-1}}|-1}}"},
            {"{2|{{0|*}|{0,{2|*,0}|*,0}}}", "{{-2,{-2|-2}|-2,{-2,{-2|-2}|-4}}|{{-2|-2}|-2}}", "{{{*,0|0,{*,0|-2}}|{*|0}}|-2}"},
            {"{{0|{{2|*,{0|*}}|*,{0|*}}}|-1}", "{{{1|1},{{1|1}|1}|{{1|1},{{1|1}|1}|-1}}|1}", "{1|{{*,{*|0}|{*,{*|0}|-2}}|0}}"}};
        for (String[] one : all) {
            UppityGames x = new UppityGames();
            Edges.text(x, 0, one[0]);
            Edges.text(x, 1, one[1]);
            Edges.due(x.plus(2, 0, 1), x.slot(2, 0));
            Edges.dueWords(x, 2, one[2]);
            // Taken away again, the other one is left.
            Edges.due(x.minus(0, 0) > 0 && x.plus(0, 0, 2) > 0 ? 1 : 0, 1);
            Edges.dueWords(x, 0, one[1]);
        }
    }

    private static void longest() {
        Edges.says(0, "with a WIDTH of 10 and WORDS of 100 bytes at most: what would be more is FULL");
        // Of made(): from three games 100 bytes, from three others 101.
        UppityGames x = new UppityGames();
        Edges.text(x, 1, "{1|-2}");
        Edges.text(x, 2, "{1|-1,{1|-2}}");
        Edges.text(x, 3, "{1|0,{1|-2},{1|-1,{1|-2}}}");
        x.whole(0, -1);
        x.whole(4, 0);
        Edges.due(x.made(5, 16 + 4 + 8, 1), 8);
        x.whole(0, -2);
        Edges.due(x.made(6, 2 + 4 + 8 + 32, 1), 9);
        Edges.due(x.slot(6, 6), 100);
        UppityGames y = new UppityGames();
        y.ups(1, 1, 1);
        y.made(2, 2, 1);
        y.made(3, 2 + 4, 4);
        Edges.due(y.slot(1, 6) + y.slot(2, 6) + y.slot(3, 6), 7 + 11 + 33);
        Edges.due(y.made(4, 2 + 4 + 8, 4 + 8), Edges.FULL);
        // Of minus() and plus().
        UppityGames z = new UppityGames();
        Edges.text(z, 1, "{{1,{1,{1|1}|0},{1|1,{1|1}}|0},{1|{1|1,{1|1}},{1,{1,{1|1}|0},{1|1,{1|1}}|0}}|0}");
        Edges.due(z.minus(2, 1) > 0 ? z.slot(2, 6) : 0, 100);
        Edges.text(z, 1, "{{1|{1,{1|1}|1,{1|1}}}|{1|1},{1,{1|1}|1,{1|1}},{1,{1|1},{1,{1|1}|1,{1|1}}|*}}");
        Edges.due(z.minus(3, 1), Edges.FULL);
        z.whole(4, -1);
        Edges.text(z, 1, "{1,{1,{1|0}|0,{1,{1|0}|*,0}}|0,{1,{1|0}|*,0},{1,{1|0}|0,{1,{1|0}|*,0}}}");
        Edges.due(z.plus(5, 1, 4) > 0 ? z.slot(5, 6) : 0, 100);
        Edges.text(z, 1, "{1,{1|*,0},{1,{1|*,0}|-1}|-1,{1|-1},{1,{1|*,0},{1,{1|*,0}|-1}|-1,{1|-1}}}");
        Edges.due(z.plus(6, 1, 4), Edges.FULL);
        Edges.due(z.integer(6), 0);
        longTexts();
    }

    private static void longTexts() {
        UppityGames x = new UppityGames();
        String hundred = "{1,{1|0}|0,{0,{1|0}|-1},{0,{1|0}|*,0,{0,{1|0}|-1}},{*,0,{0,{1|0}|-1},{0,{1|0}|*,0,{0,{1|0}|-1}}|-1}}";
        Edges.due(hundred.length(), 100);
        Edges.due(Edges.text(x, 0, hundred) > 0 ? x.slot(0, 6) : 0, 100);
        Edges.due(x.word(0, 99), '}');
        Edges.due(x.word(0, 100), Edges.NONE);
        String more = "{*,{0|*},{*,{0|*}|*,0},{*,{0|*},{*,{0|*}|*,0}|0,{0|*,0}}|0,{0|*,0},{*,{0|*},{*,{0|*}|*,0}|0,{0|*,0}}}";
        Edges.due(more.length(), 101);
        Edges.due(Edges.text(x, 0, more), Edges.FULL);
    }

    private static void outcomes() {
        Edges.says(0, "1 GREATER than 0 (LEFT wins), -1 LESS (RIGHT wins), 0 EQUAL to 0 (who moves second wins), 2 CONFUSED with 0");
        UppityGames x = new UppityGames();
        String[] texts = {"0", "*+*", "{-1|1}", "1", "^", "{0|1}", "{3|{1|0}}", "-1", "-^", "{-1|0}", "*", "{1|-1}", "^+*", "{0|0}", "{1|0}"};
        int[] outcomes = {0, 0, 0, 1, 1, 1, 1, -1, -1, -1, 2, 2, 2, 2, 2};
        for (int i = 0; i < texts.length; i++) {
            Edges.text(x, 0, texts[i]);
            Edges.due(x.slot(0, 4), outcomes[i]);
        }
    }
}
