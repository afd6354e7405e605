/** SHEETS (Terms, 3), and promises 29 to 35: rows of numbers, images, what is counted; each sentence that names an edge. */
public final class EdgesOfSheetsTest {
    public static void main(String[] args) throws java.io.IOException {
        run();
        Edges.end("EdgesOfSheetsTest");
    }

    static void run() {
        sheets();
        sheet();
        put();
        lowestBits();
        at();
        copy();
        overlaps();
        copyRefused();
        image();
        restore();
        count();
    }

    private static void sheets() {
        Edges.says(0, "SHEETS 0 .. 3 are rows of 8, 16 or 32 bits, at most 24 numbers, or MISSING (as at first).");
        UppityGames x = new UppityGames();
        for (int sheet = 0; sheet < 4; sheet++) {
            Edges.due(x.at(sheet, 0), Edges.MISSING);
            Edges.due(x.plays(sheet, 0, 0), Edges.MISSING);
        }
        Edges.due(x.count(5), 0);
        for (int sheet = 0; sheet < 4; sheet++) {
            Edges.due(x.sheet(sheet, 32, 24), 1);
            Edges.due(x.put(sheet, 0, 1000 + sheet), 1);
            Edges.due(x.put(sheet, 23, 2000 + sheet), 1);
        }
        for (int sheet = 0; sheet < 4; sheet++) {
            Edges.due(x.at(sheet, 0), 1000 + sheet);
            Edges.due(x.at(sheet, 23), 2000 + sheet);
            Edges.due(x.at(sheet, 24), Edges.BEYOND);
        }
    }

    private static void sheet() {
        UppityGames x = new UppityGames();
        Edges.says(29, "A SHEET has n numbers, all 0, of so many bits");
        for (int bits : new int[] {8, 16, 32}) {
            Edges.due(x.sheet(0, bits, 24), 1);
            for (int i = 0; i < 24; i++) {
                Edges.due(x.at(0, i), 0);
                x.put(0, i, -1);
            }
            Edges.due(x.sheet(1, bits, 0), 1);
            Edges.due(x.at(1, 0), Edges.BEYOND);
        }
        // A shorter one, then a longer one: nothing of what was there comes back.
        Edges.due(x.sheet(0, 8, 2), 1);
        Edges.due(x.at(0, 2), Edges.BEYOND);
        Edges.due(x.sheet(0, 8, 24), 1);
        Edges.due(x.at(0, 1), 0);
        Edges.due(x.at(0, 23), 0);
        Edges.says(29, "0: it is MISSING, n doesn't matter");
        for (int n : new int[] {3, -1, 25, Edges.LEAST, Edges.MOST}) {
            x.sheet(0, 8, 3);
            Edges.due(x.sheet(0, 0, n), 1);
            Edges.due(x.at(0, 0), Edges.MISSING);
        }
        Edges.due(x.sheet(0, 0, 0), 1);
        Edges.says(29, "BEYOND: sheet, bits.");
        UppityGames y = new UppityGames();
        Edges.dueWithin(y, 0, 0, 3, "sheet", 0, 8, 1);
        Edges.dueWithin(y, 0, 0, 3, "sheet", 0, 0, 1);
        for (int bits : new int[] {-8, -1, 1, 4, 7, 9, 15, 17, 24, 31, 33, 64, Edges.LEAST, Edges.MOST}) {
            Edges.due(y.sheet(1, bits, 1), Edges.BEYOND);
        }
        Edges.says(29, "STATE: n is below 0. BEYOND: n is above 24.");
        y.sheet(0, 16, 2);
        y.put(0, 1, 7);
        Edges.due(y.sheet(0, 8, -1), Edges.STATE);
        Edges.due(y.sheet(0, 8, Edges.LEAST), Edges.STATE);
        Edges.due(y.sheet(0, 8, 25), Edges.BEYOND);
        Edges.due(y.sheet(0, 8, Edges.MOST), Edges.BEYOND);
        Edges.due(y.sheet(3, 0, 1), 1);
        Edges.due(y.sheet(3, 32, 25), Edges.BEYOND);
        Edges.due(y.at(3, 0), Edges.MISSING);
        Edges.dueRow(y, 0, 0, 7);
    }

    private static void put() {
        UppityGames x = new UppityGames();
        Edges.says(30, "MISSING");
        Edges.due(x.put(0, 0, 1), Edges.MISSING);
        x.sheet(0, 8, 3);
        Edges.says(30, "BEYOND: no such number.");
        Edges.dueWithin(x, 1, 0, 2, "put", 0, 0, 5);
        Edges.dueRow(x, 0, 5, 0, 5);
        x.sheet(1, 8, 0);
        Edges.due(x.put(1, 0, 1), Edges.BEYOND);
        Edges.says(30, "BEYOND: no such SHEET.");
        for (int sheet : new int[] {-1, 4, Edges.LEAST, Edges.MOST}) {
            Edges.due(x.put(sheet, 0, 1), Edges.BEYOND);
        }
    }

    private static void lowestBits() {
        Edges.says(30, "Number i of a SHEET becomes v (its lowest bits): 1.");
        UppityGames x = new UppityGames();
        x.sheet(0, 8, 2);
        x.sheet(1, 16, 2);
        x.sheet(2, 32, 2);
        int[] told = {0, 1, 127, 256, 257, 300, 65535 + 1, 65536 + 127, Edges.LEAST, 1 << 30, 32767, 12345};
        int[] eight = {0, 1, 127, 0, 1, 44, 0, 127, 0, 0, -1, 57};
        int[] sixteen = {0, 1, 127, 256, 257, 300, 0, 127, 0, 0, 32767, 12345};
        for (int i = 0; i < told.length; i++) {
            for (int sheet = 0; sheet < 3; sheet++) {
                Edges.due(x.put(sheet, 0, told[i]), 1);
            }
            Edges.due(x.at(0, 0), eight[i]);
            Edges.due(x.at(1, 0), sixteen[i]);
            Edges.due(x.at(2, 0), told[i]);
        }
        // The bits above the lowest ones go to no other number.
        x.put(0, 0, -1);
        x.put(1, 0, -1);
        x.put(2, 0, -1);
        for (int sheet = 0; sheet < 3; sheet++) {
            Edges.due(x.at(sheet, 0), -1);
            Edges.due(x.at(sheet, 1), 0);
        }
        x.put(0, 0, 128);
        Edges.due(x.at(0, 0), -128);
        x.put(1, 0, 32768);
        Edges.due(x.at(1, 0), -32768);
    }

    private static void at() {
        UppityGames x = new UppityGames();
        Edges.says(31, "MISSING");
        Edges.due(x.at(0, 0), Edges.MISSING);
        x.sheet(0, 32, 3);
        x.put(0, 2, Edges.LEAST);
        Edges.says(31, "BEYOND: no such number.");
        Edges.due(x.at(0, 2), Edges.LEAST);
        for (int i : new int[] {-1, 3, 24, Edges.LEAST, Edges.MOST}) {
            Edges.due(x.at(0, i), Edges.BEYOND);
        }
        Edges.says(31, "BEYOND: no such SHEET.");
        for (int sheet : new int[] {-1, 4, Edges.LEAST, Edges.MOST}) {
            Edges.due(x.at(sheet, 0), Edges.BEYOND);
        }
        Edges.due(x.told(1), 9);
    }

    private static void copy() {
        UppityGames x = new UppityGames();
        Edges.says(32, "n numbers of a SHEET, from number i on, come to another one (or the same), from its number j on");
        for (int bits : new int[] {8, 16, 32}) {
            x.sheet(0, bits, 4);
            x.sheet(1, bits, 6);
            for (int i = 0; i < 4; i++) {
                x.put(0, i, i + 1);
            }
            Edges.due(x.copy(0, 1, 1, 3, 2), 2);
            Edges.dueRow(x, 1, 0, 0, 0, 2, 3, 0);
            Edges.due(x.copy(0, 0, 1, 2, 4), 4);
            Edges.dueRow(x, 1, 0, 0, 1, 2, 3, 4);
            Edges.dueRow(x, 0, 1, 2, 3, 4);
            Edges.due(x.copy(1, 5, 0, 0, 1), 1);
            Edges.dueRow(x, 0, 4, 2, 3, 4);
            // None, also behind the last ones.
            Edges.due(x.copy(0, 0, 1, 0, 0), 0);
            Edges.due(x.copy(0, 4, 1, 6, 0), 0);
        }
        x.sheet(2, 8, 0);
        Edges.due(x.copy(2, 0, 2, 0, 0), 0);
        Edges.due(x.copy(2, 0, 2, 0, 1), Edges.BEYOND);
    }

    private static void overlaps() {
        Edges.says(32, "as they all were: n.");
        UppityGames x = new UppityGames();
        x.sheet(0, 8, 6);
        for (int i = 0; i < 6; i++) {
            x.put(0, i, i + 1);
        }
        Edges.due(x.copy(0, 0, 0, 1, 5), 5);
        Edges.dueRow(x, 0, 1, 1, 2, 3, 4, 5);
        Edges.due(x.copy(0, 2, 0, 0, 4), 4);
        Edges.dueRow(x, 0, 2, 3, 4, 5, 4, 5);
        Edges.due(x.copy(0, 0, 0, 0, 6), 6);
        Edges.dueRow(x, 0, 2, 3, 4, 5, 4, 5);
    }

    private static void copyRefused() {
        UppityGames x = new UppityGames();
        x.sheet(0, 8, 6);
        x.sheet(1, 8, 3);
        x.sheet(2, 16, 6);
        x.put(0, 0, 9);
        Edges.says(32, "BEYOND: no such SHEET.");
        for (int sheet : new int[] {-1, 4, Edges.LEAST, Edges.MOST}) {
            Edges.due(x.copy(sheet, 0, 0, 0, 1), Edges.BEYOND);
            Edges.due(x.copy(0, 0, sheet, 0, 1), Edges.BEYOND);
        }
        Edges.says(32, "MISSING: one is.");
        Edges.due(x.copy(3, 0, 0, 0, 1), Edges.MISSING);
        Edges.due(x.copy(0, 0, 3, 0, 1), Edges.MISSING);
        Edges.due(x.copy(3, 0, 3, 0, 0), Edges.MISSING);
        Edges.says(32, "KIND: they are of unlike bits.");
        Edges.due(x.copy(0, 0, 2, 0, 1), Edges.KIND);
        Edges.due(x.copy(2, 0, 0, 0, 0), Edges.KIND);
        Edges.says(32, "BEYOND: n, i or j is below 0, or they don't stand there.");
        int[][] all = {{0, 0, -1}, {-1, 0, 1}, {0, -1, 1}, {-1, 0, 0}, {0, -1, 0}, {0, 0, 4}, {3, 0, 4}, {4, 0, 3}, {0, 1, 3},
            {0, 3, 1}, {6, 0, 1}, {7, 0, 0}, {0, 4, 0}, {Edges.MOST, 0, 1}, {0, Edges.MOST, 1}, {1, 1, Edges.MOST},
            {Edges.MOST, Edges.MOST, Edges.MOST}, {Edges.LEAST, 0, 1}, {0, Edges.LEAST, 1}, {0, 0, Edges.LEAST},
            {Edges.MOST, 0, 2}, {6, 3, Edges.MOST - 2}, {Edges.LEAST, Edges.LEAST, Edges.LEAST}};
        for (int[] one : all) {
            Edges.due(x.copy(0, one[0], 1, one[1], one[2]), Edges.BEYOND);
        }
        Edges.due(x.copy(1, 0, 0, 0, 4), Edges.BEYOND);
        Edges.dueRow(x, 0, 9, 0, 0, 0, 0, 0);
        Edges.dueRow(x, 1, 0, 0, 0);
        Edges.due(x.copy(0, 3, 1, 0, 3), 3);
    }

    private static void image() {
        UppityGames x = new UppityGames();
        Edges.says(33, "What all SLOTS hold is kept as an IMAGE, in place of one ahead: all WIDTHS together.");
        Edges.due(x.image(), 8);
        for (int s = 0; s < 8; s++) {
            x.whole(s, s + 1);
        }
        Edges.due(x.image(), 2 + 3 + 4 + 5 + 6 + 7 + 8 + 9);
        for (int s = 0; s < 8; s++) {
            x.heap(s, 1);
        }
        Edges.due(x.restore(), 44);
        for (int s = 0; s < 8; s++) {
            Edges.due(x.integer(s), s + 1);
        }
    }

    private static void restore() {
        UppityGames x = new UppityGames();
        Edges.says(34, "NONE: there is none.");
        x.whole(0, 2);
        Edges.due(x.restore(), Edges.NONE);
        Edges.due(x.integer(0), 2);
        Edges.due(x.count(3), 1);
        Edges.says(34, "SLOTS hold what the IMAGE has, which stays: all WIDTHS together.");
        Edges.due(x.image(), 10);
        x.whole(0, 5);
        x.whole(7, 5);
        Edges.due(x.restore(), 10);
        Edges.due(x.integer(0), 2);
        Edges.due(x.integer(7), 0);
        x.whole(1, 9);
        Edges.due(x.restore(), 10);
        Edges.due(x.integer(1), 0);
        // An image is of the slots alone.
        x.feed('1', 1);
        x.sheet(0, 8, 2);
        x.put(0, 0, 3);
        x.slot(8, 0);
        Edges.due(x.restore(), 10);
        Edges.due(x.count(2), 1);
        Edges.dueRow(x, 0, 3, 0);
        Edges.due(x.told(1), 1);
        Edges.due(x.told(2), 1);
    }

    private static void count() {
        UppityGames x = new UppityGames();
        String[] says = {"0 how many SLOTS hold a SMALL GAME", "1 all WIDTHS together", "2 bytes of THE TAPE",
            "3 how many are in HISTORY", "4 how many unlike GAMES SLOTS hold", "5 how many SHEETS aren't MISSING."};
        int[] fresh = {8, 8, 0, 0, 1, 0};
        int[] then = {4, 1 + 2 + 3 + 3 + 3 + 4 + 3 + 3, 3, 8, 5, 2};
        int[] last = {0, 80, 120, 8, 2, 4};
        for (int what = 0; what < 6; what++) {
            Edges.says(35, says[what]);
            Edges.due(x.count(what), fresh[what]);
        }
        x.whole(0, 0);
        x.whole(1, 1);
        x.ups(2, 1, 0);
        x.made(3, 1, 0);
        Edges.text(x, 3, "{0|*}");
        x.ups(4, 1, 0);
        Edges.text(x, 5, "{1|-1}");
        Edges.text(x, 6, "{1|1}");
        Edges.text(x, 7, "1+*");
        x.feed(0, 3);
        x.sheet(0, 8, 0);
        x.sheet(1, 16, 1);
        x.sheet(3, 32, 1);
        x.sheet(3, 0, 1);
        for (int what = 0; what < 6; what++) {
            Edges.says(35, says[what]);
            Edges.due(x.count(what), then[what]);
        }
        for (int s = 0; s < 8; s++) {
            x.whole(s, s < 4 ? 9 : -9);
        }
        x.game(8);
        x.game(0);
        for (int n = 0; n < 15; n++) {
            x.feed(-1L, 8);
        }
        for (int sheet = 0; sheet < 4; sheet++) {
            x.sheet(sheet, 8, 1);
        }
        for (int what = 0; what < 6; what++) {
            Edges.says(35, says[what]);
            Edges.due(x.count(what), last[what]);
        }
        Edges.says(35, "BEYOND");
        Edges.dueWithin(x, 0, 0, 5, "count", 0);
    }
}
