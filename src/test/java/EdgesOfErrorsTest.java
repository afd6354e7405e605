/** ERRORS: their numbers, the order in which they are asked, what stays as it was behind one, what told() tells. */
public final class EdgesOfErrorsTest {
    /** Small, and its WEIGHT is {1|-1}. */
    private static final String HOT = "{^+^+^|-^+-^+-^}";
    /** A game whose NEGATIVE has 101 bytes. */
    private static final String LONG = "{{1|{1,{1|1}|1,{1|1}}}|{1|1},{1,{1|1}|1,{1|1}},{1,{1|1},{1,{1|1}|1,{1|1}}|*}}";

    public static void main(String[] args) throws java.io.IOException {
        run();
        Edges.end("EdgesOfErrorsTest");
    }

    static void run() {
        calls();
        numbers();
        order();
        nothingChanges();
        tapeAlone();
        told();
    }

    private static void calls() {
        Edges.says(0, "An object is used for at most 512 calls after it has been made");
        UppityGames x = new UppityGames();
        for (int n = 1; n <= 510; n++) {
            x.slot(8, 0);
        }
        Edges.due(x.heap(7, 9), 10);
        Edges.due(x.told(1), 510);
    }

    private static void numbers() {
        Edges.says(0, "LOW is -1100000000; LOW - 1 BEYOND, LOW - 2 NONE, LOW - 3 STATE, LOW - 4 FULL, LOW - 5 KIND, LOW - 6 MISSING");
        UppityGames x = new UppityGames();
        x.whole(0, 9);
        x.sheet(0, 8, 1);
        x.sheet(1, 16, 1);
        Edges.due(x.slot(8, 0), -1100000001L);
        Edges.due(x.restore(), -1100000002L);
        Edges.due(x.atomic(0), -1100000003L);
        Edges.due(x.plus(0, 0, 0), -1100000004L);
        Edges.due(x.copy(0, 0, 1, 0, 1), -1100000005L);
        Edges.due(x.at(2, 0), -1100000006L);
    }

    /** Each of these calls gives cause for more than one ERROR. */
    private static void order() {
        Edges.says(0, "Each act tells its ERRORS in the order in which they are asked");
        UppityGames x = full();
        refused(x, Edges.BEYOND, "integer", 8);
        refused(x, Edges.BEYOND, "word", 8, -1);
        refused(x, Edges.BEYOND, "word", -1, 99);
        refused(x, Edges.BEYOND, "made", 8, 1, 1);
        refused(x, Edges.BEYOND, "made", 4, 257, 1);
        refused(x, Edges.BEYOND, "made", 4, 1, 257);
        refused(x, Edges.BEYOND, "plus", 8, 0, 0);
        refused(x, Edges.BEYOND, "minus", 8, 2);
        refused(x, Edges.BEYOND, "option", 8, 0, 1, 0);
        refused(x, Edges.BEYOND, "option", 4, 8, 0, 99);
        refused(x, Edges.BEYOND, "option", 4, 0, 2, 99);
        refused(x, Edges.BEYOND, "weight", 8, 0);
        refused(x, Edges.BEYOND, "garden", 256 + 1);
        refused(x, Edges.BEYOND, "garden", 256 + 2);
        refused(x, Edges.BEYOND, "garden", -1);
        refused(x, Edges.STATE, "garden", 1 + 2);
        refused(x, Edges.BEYOND, "reply", 8, 7, 0, 0);
        refused(x, Edges.BEYOND, "reply", 7, 8, 0, 0);
        refused(x, Edges.BEYOND, "reply", 7, 7, 2, 0);
        refused(x, Edges.BEYOND, "reply", 7, 7, 0, 2);
        refused(x, Edges.BEYOND, "plays", 3, 8, 0);
        refused(x, Edges.BEYOND, "plays", 3, 0, 2);
        refused(x, Edges.BEYOND, "born", 4, 99, 0);
        refused(x, Edges.BEYOND, "born", 3, 99, 8);
        refused(x, Edges.BEYOND, "place", 4, 0);
        refused(x, Edges.BEYOND, "place", 3, 8);
        refused(x, Edges.BEYOND, "feed", -1, 9);
        refused(x, Edges.BEYOND, "feed", -1, Edges.MOST);
        refused(x, Edges.BEYOND, "sheet", 4, 8, -1);
        refused(x, Edges.BEYOND, "sheet", 0, 9, -1);
        refused(x, Edges.MISSING, "put", 3, -1, 0);
        refused(x, Edges.MISSING, "put", 3, 24, 0);
        refused(x, Edges.MISSING, "at", 3, -1);
        refused(x, Edges.MISSING, "at", 3, 24);
        refused(x, Edges.BEYOND, "copy", 4, 0, 3, 0, 1);
        refused(x, Edges.BEYOND, "copy", 3, 0, 4, 0, 1);
        refused(x, Edges.MISSING, "copy", 0, 0, 3, 0, -1);
        refused(x, Edges.MISSING, "copy", 3, 0, 0, 0, -1);
        refused(x, Edges.KIND, "copy", 0, 0, 1, 0, -1);
        refused(x, Edges.KIND, "copy", 0, -1, 1, 24, 1);
        // A game on the tape that is too wide, a slot that is none; a fault behind it, a slot.
        UppityGames y = new UppityGames();
        Edges.feed(y, "12");
        Edges.due(y.game(8), Edges.BEYOND);
        Edges.feed(y, "+");
        Edges.due(y.game(0), -13);
    }

    private static void nothingChanges() {
        Edges.says(0, "one that answers an ERROR changes nothing but what told() tells");
        UppityGames x = new UppityGames();
        String ahead = state(x);
        refused(x, Edges.NONE, "undo");
        refused(x, Edges.NONE, "restore");
        Edges.due(state(x).equals(ahead) ? 1 : 0, 1);
        // No image has come to be by that.
        refused(x, Edges.NONE, "restore");
        String[][] all = {
            {"slot 8 0", "slot -1 0", "slot 0 9", "slot 0 -1", "integer 8", "word 8 0", "whole 8 0", "whole 4 10",
                "heap 8 0", "heap 4 10", "ups 8 0 0", "ups 4 5 0", "ups 4 0 6", "flower 8 1 0 0", "flower 4 0 0 0",
                "flower 4 1 4 0", "flower 4 1 0 4", "made 8 0 0", "made 4 256 0", "made 4 0 256", "plus 8 7 7", "plus 4 8 7",
                "plus 4 7 8", "minus 8 7", "minus 4 8", "option 8 0 0 0", "option 4 8 0 0", "option 4 0 2 0", "move 8 7",
                "move 4 8", "order 8 0", "order 0 8", "outcome 8 0", "outcome 0 8", "far 8", "weight 8 7", "weight 4 8",
                "atomic 8", "ahead 8", "garden 256", "reply 8 0 0 0", "reply 0 8 0 0", "reply 0 0 2 0", "reply 0 0 0 2",
                "fight 8 0 0 0", "fight 0 8 0 0", "fight 0 0 2 0", "fight 0 0 0 2", "plays 4 0 0", "plays 0 8 0",
                "plays 0 0 2", "born 4 0 4", "born 3 -2 4", "born 3 0 8", "place 4 0", "place 3 8", "feed 49 0",
                "feed 49 9", "game 8", "sheet 4 8 1", "sheet 0 9 1", "sheet 0 8 25", "put 4 0 1", "put 0 5 1",
                "put 0 -1 1", "at 4 0", "at 0 5", "copy 4 0 0 0 1", "copy 0 0 4 0 1", "copy 0 0 0 1 -1", "copy 0 -1 0 1 1",
                "copy 0 0 0 -1 1", "copy 0 0 0 1 5", "count 6", "told 7"},
            {"integer 1", "word 0 1", "option 4 0 1 0", "atomic 1", "garden 2", "reply 7 7 0 0", "born 3 67 4", "place 3 0"},
            {"weight 4 0", "atomic 0", "ahead 0", "garden 1", "sheet 0 8 -1"},
            {"made 4 1 1", "plus 4 0 0", "minus 4 2", "feed 12337 2"},
            {"copy 0 0 1 0 1"},
            {"plays 3 0 0", "put 3 0 1", "at 3 0", "copy 0 0 3 0 1", "copy 3 0 0 0 1"}};
        String full = state(full());
        for (int k = 1; k <= all.length; k++) {
            for (String call : all[k - 1]) {
                refusedInFull(call, k, full);
            }
        }
    }

    /** Behind the call all is as ahead of it: the slots, the sheets, the tape, the history, the image; one ERROR more is told. */
    private static void refusedInFull(String call, int k, String full) {
        UppityGames x = full();
        refused(x, -1100000000 - k, call);
        for (int other = 1; other <= 6; other++) {
            Edges.due(x.told(other), other == k ? 1 : 0);
        }
        Edges.due(state(x).equals(full) ? 1 : 0, 1);
        Edges.due(x.game(4), 1);
        Edges.due(x.undo(), 7);
        for (int s = 7; s >= 1; s--) {
            Edges.due(x.undo(), s - 1);
            Edges.due(x.integer(s), s + 1);
        }
        Edges.due(x.restore(), 1 + 3 + 4 + 5 + 6 + 7 + 8 + 9);
        Edges.due(x.integer(0), 0);
        Edges.due(x.integer(7), 8);
    }

    private static void tapeAlone() {
        Edges.says(0, "and, where told, THE TAPE");
        UppityGames x = full();
        x.game(4);
        String ahead = state(x);
        Edges.feed(x, "12");
        Edges.due(x.game(4), Edges.FULL);
        Edges.due(state(x).equals(ahead) ? 1 : 0, 1);
    }

    private static void told() {
        Edges.says(36, "How many acts have answered an ERROR LOW - k (k 1 .. 6)");
        UppityGames x = new UppityGames();
        for (int k = 1; k <= 6; k++) {
            Edges.due(x.told(k), 0);
        }
        // One ERROR an act, though there is cause for more.
        x.copy(9, -1, 9, -1, -1);
        Edges.due(x.told(1), 1);
        x.put(3, -1, 0);
        Edges.due(x.told(1), 1);
        Edges.due(x.told(6), 1);
        Edges.says(36, "BEYOND: another k (counted, too)");
        for (int k : new int[] {0, 7, -1, Edges.LEAST, Edges.MOST}) {
            int before = x.told(1);
            Edges.due(x.told(k), Edges.BEYOND);
            Edges.due(x.told(1), before + 1);
        }
        Edges.dueWithin(x, 0, 1, 6, "told", 1);
        Edges.says(31, "A number may be as low as ERRORS are");
        UppityGames y = new UppityGames();
        y.sheet(0, 32, 6);
        for (int k = 1; k <= 6; k++) {
            y.put(0, k - 1, -1100000000 - k);
            Edges.due(y.at(0, k - 1), -1100000000L - k);
            Edges.due(y.told(k), 0);
        }
    }

    /** Cause for each ERROR; 8 acts in the history; an image that has other games; room for one byte on the tape. */
    private static UppityGames full() {
        UppityGames x = new UppityGames();
        for (int s = 1; s < 8; s++) {
            x.whole(s, s + 1);
        }
        x.image();
        x.restore();
        x.whole(0, 9);
        Edges.text(x, 1, HOT);
        Edges.text(x, 2, LONG);
        x.heap(3, 9);
        x.ups(4, 1, 0);
        x.heap(5, 2);
        x.ups(6, 2, 1);
        x.whole(7, 0);
        Edges.feed(x, "0+".repeat(59) + "0");
        x.sheet(0, 8, 5);
        x.sheet(1, 16, 5);
        x.sheet(2, 32, 24);
        for (int i = 0; i < 5; i++) {
            x.put(0, i, i + 1);
            x.put(1, i, i + 7);
        }
        x.sheet(3, 0, 0);
        return x;
    }

    /** By calls that answer no ERROR. */
    private static String state(UppityGames x) {
        StringBuilder text = new StringBuilder();
        for (int s = 0; s < 8; s++) {
            text.append(Edges.words(x, s)).append(' ');
        }
        for (int what = 0; what < 6; what++) {
            text.append(x.count(what)).append(' ');
        }
        int[] lengths = x.count(5) == 0 ? new int[0] : new int[] {5, 5, 24};
        for (int sheet = 0; sheet < lengths.length; sheet++) {
            for (int i = 0; i < lengths[sheet]; i++) {
                text.append(x.at(sheet, i)).append(' ');
            }
        }
        return text.toString();
    }

    private static void refused(UppityGames x, int error, String call) {
        String[] parts = call.split(" ");
        long[] arguments = new long[parts.length - 1];
        for (int i = 0; i < arguments.length; i++) {
            arguments[i] = Long.parseLong(parts[i + 1]);
        }
        refused(x, error, parts[0], arguments);
    }

    private static void refused(UppityGames x, int error, String name, long... arguments) {
        Edges.due(new Calls(name, arguments).on(x), error);
    }
}
