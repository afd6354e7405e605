/** Terms, 3: TEXT, FAULT, FULL, THE TAPE; promises 27 and 28; each sentence that names an edge. */
public final class EdgesOfTextsTest {
    public static void main(String[] args) throws java.io.IOException {
        run();
        Edges.end("EdgesOfTextsTest");
    }

    static void run() {
        sums();
        numbers();
        heaps();
        upsAndNegatives();
        options();
        blanks();
        open();
        closed();
        faults();
        early();
        signs();
        full();
        tape();
        feed();
        game();
        gameRefused();
        histories();
    }

    private static void sums() {
        Edges.says(0, "E: U, then, as often as one likes, + and U (their SUM).");
        UppityGames x = new UppityGames();
        Edges.dueText(x, "3", "3");
        Edges.dueText(x, "3+4", "7");
        Edges.dueText(x, "1+*+^+2", "{3,{3|3}|3}");
        Edges.dueText(x, "0+".repeat(59) + "9", "9");
        Edges.dueText(x, "{1+1|}+{|-1+-1}", "0");
        Edges.dueFault(x, "+", 0);
        Edges.dueFault(x, "+1", 0);
        Edges.dueFault(x, "1+", 2);
        Edges.dueFault(x, "1++1", 2);
        Edges.dueFault(x, "1 1", 1);
        Edges.dueFault(x, "1*", 1);
        Edges.dueFault(x, "^^", 1);
        Edges.dueFault(x, "{|}{|}", 3);
        Edges.dueFault(x, "1-1", 1);
    }

    private static void numbers() {
        Edges.says(0, "a number (1 or 2 digits, 12 at most)");
        UppityGames x = new UppityGames();
        for (int n = 0; n <= 9; n++) {
            Edges.dueText(x, String.valueOf(n), String.valueOf(n));
            Edges.dueText(x, "0" + n, String.valueOf(n));
        }
        // 10 to 12 are no fault, but too wide.
        for (int n = 10; n <= 12; n++) {
            Edges.due(Edges.text(x, 0, String.valueOf(n)), Edges.FULL);
        }
        Edges.dueFault(x, "001", 2);
        Edges.dueFault(x, "123", 2);
        Edges.dueFault(x, "090", 2);
        Edges.says(0, "(of a number above 12 its first digit)");
        for (String above : new String[] {"13", "19", "20", "99", "130", "991"}) {
            Edges.dueFault(x, above, 0);
            Edges.dueFault(x, "{1,-" + above + "|}", 4);
        }
    }

    private static void heaps() {
        Edges.says(0, "*, then perhaps a number likewise (else 1)");
        UppityGames x = new UppityGames();
        Edges.dueText(x, "*", "*");
        Edges.dueText(x, "*1", "*");
        Edges.dueText(x, "*0", "0");
        Edges.dueText(x, "*00", "0");
        Edges.dueText(x, "*01", "*");
        Edges.dueText(x, "*9", "*9");
        Edges.dueText(x, "*+*2", "*3");
        Edges.due(Edges.text(x, 0, "*10"), Edges.FULL);
        Edges.due(Edges.text(x, 0, "*12"), Edges.FULL);
        Edges.dueFault(x, "*13", 1);
        Edges.dueFault(x, "*99", 1);
        Edges.dueFault(x, "0+*20", 3);
        Edges.dueFault(x, "*012", 3);
        Edges.dueFault(x, "**", 1);
        Edges.dueFault(x, "*-1", 1);
        Edges.dueFault(x, "*{|}", 1);
    }

    private static void upsAndNegatives() {
        Edges.says(0, "^ (UP); - and U (NEGATIVE)");
        UppityGames x = new UppityGames();
        Edges.dueText(x, "^", "{0|*}");
        Edges.dueText(x, "-^", "{*|0}");
        Edges.dueText(x, "-0", "0");
        Edges.dueText(x, "--3", "3");
        Edges.dueText(x, "-{3|1}", "{-1|-3}");
        // The - takes one U alone.
        Edges.dueText(x, "-1+2", "1");
        Edges.dueText(x, "-^+^", "0");
        Edges.dueFault(x, "^1", 1);
        Edges.dueFault(x, "-", 1);
        Edges.dueFault(x, "-+1", 1);
        Edges.dueFault(x, "1+-", 3);
        Edges.dueFault(x, "-}", 1);
    }

    private static void options() {
        UppityGames x = new UppityGames();
        Edges.says(0, "{ and OPTIONS of LEFT (each an E, with a , between; perhaps none), then | and OPTIONS of RIGHT likewise, then }.");
        Edges.dueText(x, "{|}", "0");
        Edges.dueText(x, "{2|}", "3");
        Edges.dueText(x, "{|-2}", "-3");
        Edges.dueText(x, "{0,*|0}", "{*,0|0}");
        Edges.dueText(x, "{0|0,*}", "{0|*,0}");
        Edges.dueText(x, "{1+1,0|-1+-1,0}", "{2|-2}");
        Edges.dueText(x, "{" + "0,".repeat(57) + "0|0}", "*");
        Edges.dueText(x, "{|" + "0,".repeat(57) + "0}", "-1");
        Edges.dueFault(x, "{,1|}", 1);
        Edges.dueFault(x, "{1,|}", 3);
        Edges.dueFault(x, "{1,,2|}", 3);
        Edges.dueFault(x, "{|,1}", 2);
        Edges.dueFault(x, "{|1,}", 4);
        Edges.dueFault(x, "{}", 1);
        Edges.dueFault(x, "{1}", 2);
        Edges.dueFault(x, "{1||2}", 3);
        Edges.dueFault(x, "{1|2|", 4);
        Edges.dueFault(x, "{1|2}}", 5);
        Edges.dueFault(x, "{1|2},", 5);
        Edges.dueFault(x, "1,2", 1);
        Edges.dueFault(x, "1|2", 1);
        Edges.dueFault(x, "|", 0);
        Edges.dueFault(x, "}", 0);
        Edges.dueFault(x, ",", 0);
    }

    private static void blanks() {
        Edges.says(0, "No blanks.");
        UppityGames x = new UppityGames();
        Edges.dueFault(x, " ", 0);
        Edges.dueFault(x, " 1", 0);
        Edges.dueFault(x, "1 ", 1);
        Edges.dueFault(x, "1 2", 1);
        Edges.dueFault(x, "* 2", 1);
        Edges.dueFault(x, "- 2", 1);
        Edges.dueFault(x, "1+ 1", 2);
        Edges.dueFault(x, "{ |}", 1);
        Edges.dueFault(x, "{| }", 2);
        Edges.dueFault(x, "{0, 1|}", 3);
    }

    private static void open() {
        Edges.says(0, "At most 5 of { and - are open at once");
        UppityGames x = new UppityGames();
        Edges.dueText(x, "{{{{{|}|}|}|}|}", "4");
        Edges.dueText(x, "-----3", "-3");
        Edges.dueText(x, "{-{-{3|}|}|}", "1");
        Edges.dueText(x, "{0|{0|{0|{0|{0|1}}}}}", "{0|{0|{0|{0|{0|1}}}}}");
        Edges.dueFault(x, "{{{{{{|}|}|}|}|}|}", 5);
        Edges.dueFault(x, "------3", 5);
        Edges.dueFault(x, "{{{{{-1|}|}|}|}|}", 5);
        Edges.dueFault(x, "-----{|}", 5);
        Edges.dueFault(x, "{1|{2|{3|{4|{5|-1}}}}}", 15);
        Edges.dueFault(x, "{-{-{-3|}|}|}", 5);
        Edges.dueFault(x, "{0,{0,{0,{0,{0,{", 15);
    }

    private static void closed() {
        Edges.says(0, "(a - till its U ends)");
        UppityGames x = new UppityGames();
        Edges.dueText(x, "-----1+-----1", "-2");
        Edges.dueText(x, "{----1,----2|----3}", "{2|3}");
        Edges.dueText(x, "{{{{-1+-1|}|}|}|}", "3");
        Edges.dueText(x, "-{-{-1|}|}", "-1");
        Edges.dueFault(x, "-1+------1", 8);
        Edges.dueFault(x, "{-1+-----1|}", 8);
        // A - whose U is a { stays open in there.
        Edges.dueText(x, "-{---1+2|}", "-2");
        Edges.dueFault(x, "-{----1|}", 5);
        Edges.dueFault(x, "-{{|}+----1|}", 9);
        Edges.says(0, "At most 5 of { and - are open at once");
        // Those that have been closed don't count.
        Edges.dueText(x, "{{|},{|},{|},{|},{|},{|}|{|},{|},{|},{|},{|},{|}}", "*");
        Edges.dueText(x, "{|}+{|}+{|}+{|}+{|}+{|}+-1+-1+-1+-1+-1+-1", "-6");
        Edges.dueText(x, "{{{{{|}|}|}|}|}+{{{{{|}|}|}|}|}", "8");
    }

    private static void faults() {
        Edges.says(0, "FAULT: the place (from 0) of the first byte with which no TEXT goes on");
        UppityGames x = new UppityGames();
        Edges.dueFault(x, "x", 0);
        Edges.dueFault(x, "{0|0}x", 5);
        Edges.dueFault(x, "0+".repeat(59) + "0x", 119);
        // Behind it stands what would be another fault.
        Edges.dueFault(x, "1,2,13", 1);
        Edges.dueFault(x, "13+x", 0);
        Edges.dueFault(x, "1+13x", 2);
        Edges.dueFault(x, "1+13+x", 2);
        Edges.dueFault(x, "{1+13,,|}", 3);
        Edges.dueFault(x, "{13|13}", 1);
        Edges.dueFault(x, "{1|x|}", 3);
    }

    private static void early() {
        Edges.says(0, "how many bytes there are, if it ends too early");
        UppityGames x = new UppityGames();
        for (String text : new String[] {"", "-", "{", "{1", "{1,", "{1|", "{1|2", "{1|2,", "{*", "1+", "{{|}", "-----", "{{{{{", "{|"}) {
            Edges.dueFault(x, text, text.length());
        }
        Edges.dueFault(x, "1+".repeat(60), 120);
        Edges.dueFault(x, "{" + "0,".repeat(59) + "0", 120);
    }

    private static void signs() {
        Edges.says(0, "FAULT: the place (from 0) of the first byte with which no TEXT goes on");
        // Of all 256 bytes.
        UppityGames x = new UppityGames();
        UppityGames y = new UppityGames();
        for (int sign = 0; sign < 256; sign++) {
            (sign < 128 ? x : y).feed(sign | 0x5a00L, 2);
            boolean goesOn = sign < 128 && "0123456789*^-{".indexOf(sign) >= 0;
            Edges.due((sign < 128 ? x : y).game(0), goesOn ? -11 : -10);
        }
        UppityGames z = new UppityGames();
        for (int sign = 1; sign < 128; sign++) {
            z.feed('0' | (long) sign << 8 | 0x5a0000L, 3);
            Edges.due(z.game(0), "+0123456789".indexOf(sign) >= 0 ? -12 : -11);
        }
    }

    private static void full() {
        Edges.says(0, "FULL: some GAME that is told in it (each U, each SUM so far, from the left) would be.");
        UppityGames x = new UppityGames();
        x.whole(0, 4);
        String[] units = {"10", "-12", "*10", "{9|}", "{|-9}", "{9|9}", "--10", "{5|-4}"};
        String[] sums = {"9+1", "9+1+-1", "*8+*2", "*8+*2+*2", "1+1+8+-8"};
        // What is told in the end would fit.
        String[] parts = {"10+-10", "-10+10", "*10+*10", "{0|10}", "{0,{9|}|-1}", "{9+1|0+0}", "{0|5+5+-5}", "-{9|9}+{9|9}", "{{9|9}|0}", "0+{*,{9|9}|}"};
        for (String[] all : new String[][] {units, sums, parts}) {
            for (String text : all) {
                Edges.due(Edges.text(x, 0, text), Edges.FULL);
            }
        }
        Edges.due(x.integer(0), 4);
        // From the left: -1 comes ahead of 1.
        Edges.dueText(x, "9+-1+1", "9");
        Edges.dueText(x, "*2+*2+*8", "*8");
        Edges.dueText(x, "{8|}", "9");
        Edges.says(28, "-10 less the FAULT (no ERROR; the SLOT stays). FULL");
        Edges.dueFault(x, "12+", 3);
        Edges.dueFault(x, "{9|9}{", 5);
        Edges.dueFault(x, "10+10+13", 6);
    }

    private static void tape() {
        Edges.says(0, "THE TAPE (bytes, at most 120)");
        UppityGames x = new UppityGames();
        for (int n = 1; n <= 15; n++) {
            Edges.due(x.feed(-1L, 8), 8 * n);
        }
        for (int n = 1; n <= 8; n++) {
            Edges.due(x.feed(-1L, n), Edges.FULL);
        }
        Edges.due(x.count(2), 120);
        Edges.due(x.game(0), -10);
        Edges.due(x.feed(-1L, 1), 1);
        UppityGames y = new UppityGames();
        Edges.feed(y, "0+".repeat(57) + "0");
        Edges.due(y.count(2), 115);
        Edges.due(y.feed(-1L, 8), Edges.FULL);
        Edges.due(y.feed(-1L, 6), Edges.FULL);
        Edges.due(y.count(2), 115);
        Edges.due(y.feed('+' | '3' << 8, 2), 117);
        Edges.due(y.feed('+' | '4' << 8, 2), 119);
        Edges.due(y.feed('+' | '5' << 8, 2), Edges.FULL);
        Edges.due(y.game(0), 8);
        Edges.due(y.integer(0), 7);
    }

    private static void feed() {
        UppityGames x = new UppityGames();
        Edges.says(27, "The n lowest bytes (1 .. 8) of a word, the lowest first, come to THE TAPE: how many there are.");
        long word = '1' | '+' << 8 | '2' << 16 | (long) '+' << 24 | (long) '3' << 32 | (long) '+' << 40 | (long) '-' << 48 | (long) '9' << 56;
        int[] widths = {2, 0, 4, 0, 7, 0, 0, 4};
        int[] faults = {0, 2, 0, 4, 0, 6, 7, 0};
        for (int n = 1; n <= 8; n++) {
            Edges.due(x.feed(word, n), n);
            Edges.due(x.count(2), n);
            Edges.due(x.game(0), widths[n - 1] > 0 ? widths[n - 1] : -10 - faults[n - 1]);
        }
        Edges.due(x.integer(0), -3);
        Edges.due(x.feed('1', 1), 1);
        Edges.due(x.feed('+', 1), 2);
        Edges.due(x.feed(0x7f7f7f7f7f7f7f00L | '2', 1), 3);
        Edges.due(x.game(0), 4);
        // A blank of number 0 is a byte, too.
        Edges.due(x.feed('1', 2), 2);
        Edges.due(x.game(0), -11);
        Edges.says(27, "BEYOND. FULL.");
        for (int n : new int[] {0, -1, 9, 64, Edges.LEAST, Edges.MOST}) {
            Edges.due(x.feed('1', n), Edges.BEYOND);
        }
        Edges.due(x.count(2), 0);
    }

    private static void game() {
        UppityGames x = new UppityGames();
        Edges.says(28, "THE TAPE, which is empty then, is the TEXT of a GAME that a SLOT holds then: WIDTH.");
        Edges.feed(x, "{1|-1}");
        Edges.due(x.game(7), 4);
        Edges.due(x.count(2), 0);
        Edges.dueWords(x, 7, "{1|-1}");
        Edges.due(x.count(3), 1);
        Edges.due(x.game(7), -10);
        Edges.due(Edges.text(x, 0, "0"), 1);
        Edges.due(x.count(3), 2);
        // Texts don't go on where the last one ended.
        Edges.feed(x, "1+");
        Edges.due(x.game(1), -12);
        Edges.due(Edges.text(x, 1, "1"), 2);
        Edges.due(x.integer(1), 1);
    }

    private static void gameRefused() {
        UppityGames x = new UppityGames();
        x.whole(0, 4);
        Edges.says(28, "BEYOND (THE TAPE stays).");
        Edges.feed(x, "5");
        for (int s : new int[] {-1, 8, Edges.LEAST, Edges.MOST}) {
            Edges.due(x.game(s), Edges.BEYOND);
            Edges.due(x.count(2), 1);
        }
        Edges.due(x.told(1), 4);
        Edges.feed(x, "+1");
        Edges.due(x.game(1), 7);
        Edges.due(x.integer(1), 6);
        Edges.says(28, "-10 less the FAULT (no ERROR; the SLOT stays).");
        Edges.feed(x, "5+");
        Edges.due(x.game(0), -12);
        Edges.due(x.count(2), 0);
        Edges.due(x.integer(0), 4);
        Edges.due(x.count(3), 2);
        for (int k = 2; k <= 6; k++) {
            Edges.due(x.told(k), 0);
        }
        Edges.says(28, "FULL (THE TAPE is empty, too).");
        Edges.feed(x, "10");
        Edges.due(x.game(0), Edges.FULL);
        Edges.due(x.count(2), 0);
        Edges.due(x.integer(0), 4);
        Edges.due(x.count(3), 2);
        Edges.due(x.told(4), 1);
        Edges.due(Edges.text(x, 0, "7"), 8);
    }

    private static void histories() {
        Edges.says(28, "the SLOT stays");
        UppityGames x = new UppityGames();
        x.whole(0, 4);
        Edges.text(x, 0, "{");
        Edges.text(x, 0, "12");
        Edges.due(x.undo(), 0);
        Edges.due(x.integer(0), 0);
    }
}
