import java.util.Random;

/**
 * Laws that hold of games, in whatever way they are kept: asked of the program alone, so they hold its answers
 * against each other, and not against what somebody has read in the document.
 */
public final class LawsTest {
    private static final int LOW = -1100000000;
    private static final int NONE = LOW - 2;
    private static int asked;
    private static int wrong;
    private static int seed;

    public static void main(String[] args) {
        int runs = args.length > 0 ? Integer.parseInt(args[0]) : 1500;
        for (seed = 0; seed < runs && wrong < 10; seed++) {
            sums(filled());
            negatives(filled());
            weightsOfSums(filled());
            weightsWin(filled());
            farOff(filled());
            uppity(filled());
            replies(filled(), 0);
            replies(filled(), 1);
            fights(filled());
            unordered(filled(), 0);
            unordered(filled(), 1);
            notBypassed(filled(), 0);
            notBypassed(filled(), 1);
            madeOfItsOptions(filled());
            readByItsWords(filled());
        }
        for (int day = 0; day <= 3; day++) {
            places(day);
        }
        System.out.println("laws: asked " + asked + " times, " + wrong + " broken");
        if (wrong > 0) {
            System.exit(1);
        }
    }

    private static void holds(boolean law, String what) {
        asked++;
        if (!law) {
            wrong++;
            System.out.println("seed " + seed + ": broken: " + what);
        }
    }

    /** Slots 0, 1, 2 hold games that the seed tells; by at most some 40 calls. */
    private static UppityGames filled() {
        Random random = new Random(seed);
        UppityGames games = new UppityGames();
        for (int n = 0; n < 9; n++) {
            int s = n % 3;
            switch (random.nextInt(9)) {
                case 0: games.ups(s, random.nextInt(9) - 4, random.nextInt(6)); break;
                case 1: games.flower(s, 1 + random.nextInt(4), random.nextInt(4), random.nextInt(4)); break;
                case 2: games.born(3, random.nextInt(67), s); break;
                case 3: games.heap(s, random.nextInt(6)); break;
                case 4: games.plus(s, random.nextInt(3), random.nextInt(3)); break;
                case 5: games.whole(s, random.nextInt(5) - 2); break;
                default: games.made(s, 1 + random.nextInt(7), 1 + random.nextInt(7)); break;
            }
        }
        return games;
    }

    private static boolean isFull(int answer) {
        return answer == LOW - 4;
    }

    private static void sums(UppityGames games) {
        int width = games.plus(3, 0, 1);
        holds(width == games.plus(4, 1, 0), "a + b as wide as b + a");
        if (isFull(width)) {
            return;
        }
        holds(games.order(3, 4) == 0, "a + b is b + a");
        holds(games.slot(3, 4) == games.outcome(0, 1), "the outcome of a sum");
        boolean full = isFull(games.plus(5, 3, 2)) || isFull(games.plus(6, 1, 2)) || isFull(games.plus(7, 0, 6));
        holds(full || games.order(5, 7) == 0, "(a + b) + c is a + (b + c)");
    }

    private static void negatives(UppityGames games) {
        int width = games.minus(3, 0);
        boolean tooLong = lengthOfNegative(wordsOf(games, 0)) > 100;
        holds(tooLong ? isFull(width) : width == games.slot(0, 0), "-a as wide as a, if its signs leave room for it");
        if (tooLong || isFull(games.minus(6, 1))) {
            return;
        }
        games.minus(4, 3);
        holds(games.order(0, 4) == 0, "-(-a) is a");
        holds(games.plus(5, 0, 3) == 1 && games.integer(5) == 0, "a - a is 0");
        int order = games.order(0, 1);
        holds(order == games.outcome(0, 6), "a against b is a - b against 0");
        holds(games.order(1, 0) == (order == 2 ? 2 : -order), "b against a is the other way about");
        holds((order == 0) == wordsOf(games, 0).equals(wordsOf(games, 1)), "equal games have the same words");
    }

    /** Each integer, but 0, gets or loses its sign. */
    private static int lengthOfNegative(String words) {
        int length = words.length();
        for (int i = 0; i < words.length(); i++) {
            char sign = words.charAt(i);
            boolean isHeap = i > 0 && words.charAt(i - 1) == '*';
            if (sign == '-') {
                length -= 2;
            }
            if (sign >= '1' && sign <= '9' && !isHeap) {
                length++;
            }
        }
        return length;
    }

    private static void weightsOfSums(UppityGames games) {
        if (games.slot(0, 5) == 0 || games.slot(1, 5) == 0 || isFull(games.plus(3, 0, 1))) {
            return;
        }
        int isInteger = games.weight(4, 0);
        holds(games.atomic(0) == (isInteger == 1 ? games.integer(4) : NONE), "atomic tells the weight");
        boolean full = isFull(games.weight(5, 1)) || isFull(games.weight(6, 3)) || isFull(games.plus(7, 4, 5));
        holds(full || games.order(6, 7) == 0, "the weight of a + b is that of a and that of b");
        games.minus(3, 0);
        games.weight(5, 3);
        games.minus(6, 4);
        holds(games.order(5, 6) == 0, "the weight of -a is that of a, negative");
    }

    private static void weightsWin(UppityGames games) {
        if (games.slot(0, 5) == 0 || games.slot(1, 5) == 0) {
            return;
        }
        int ahead = games.ahead(0);
        holds(ahead == 0 || games.slot(0, 4) == ahead, "who is two ahead wins");
        int together = games.garden(3);
        int outcome = games.outcome(0, 1);
        if (together == NONE) {
            return;
        }
        holds(together == games.atomic(0) + games.atomic(1), "weights of a garden are added");
        holds(together < 2 || outcome == 1, "a garden two ahead is won by left");
        holds(together > -2 || outcome == -1, "a garden two behind is won by right");
        holds(together != 1 || outcome == 1 || outcome == 2, "who is one ahead wins if he moves first");
        holds(together != -1 || outcome == -1 || outcome == 2, "and so does right");
    }

    private static void farOff(UppityGames games) {
        if (games.slot(0, 5) == 1 && games.slot(0, 1) < 9) {
            games.heap(3, 9);
            holds(games.order(0, 3) == games.far(0), "all stars that are far off are alike to a small game");
        }
    }

    /** The weight is 1 or more just of those games that are greater than a star that is far off. */
    private static void uppity(UppityGames games) {
        Random random = new Random(seed);
        int n = random.nextInt(9) - 4;
        games.ups(3, n, random.nextInt(6));
        holds(games.atomic(3) == n, "each up is one up");
        int weight = games.slot(0, 5) == 1 ? games.atomic(0) : NONE;
        if (weight != NONE) {
            int far = games.far(0);
            holds(weight >= 1 == (far == 1), "one up or more: greater than far");
            holds(weight <= -1 == (far == -1), "one down or more: less than far");
        }
    }

    private static boolean wins(int outcome, int who) {
        return outcome == 2 || outcome == 1 - 2 * who;
    }

    /** The moves are told in a row: those in slot 0 first. */
    private static void replies(UppityGames games, int who) {
        int inFirst = games.slot(0, 2 + who);
        int all = inFirst + games.slot(1, 2 + who);
        int due = -1;
        for (int n = 0; n < all && due < 0; n++) {
            boolean first = n < inFirst;
            games.option(3, first ? 0 : 1, who, first ? n : n - inFirst);
            if (!wins(games.outcome(3, first ? 1 : 0), 1 - who)) {
                due = n;
            }
        }
        holds(wins(games.outcome(0, 1), who) == due >= 0, "who moves first wins if there is a move to win by");
        holds(games.reply(0, 1, who, 0) == (due < 0 ? NONE : due < inFirst ? 0 : 1), "a reply's slot");
        holds(games.reply(0, 1, who, 1) == (due < 0 ? NONE : due < inFirst ? due : due - inFirst), "a reply's number");
    }

    private static void fights(UppityGames games) {
        int outcome = games.outcome(0, 1);
        for (int who = 0; who < 2; who++) {
            int lost = games.fight(0, 1, who, 0);
            holds(lost == (wins(outcome, who) ? 1 - who : who), "who can win a fight does so");
            int moves = games.fight(0, 1, who, 1);
            holds((who + moves) % 2 == lost, "who would have to move at the end has lost");
            holds(moves <= games.slot(0, 1) + games.slot(1, 1), "no more moves than days");
            games.move(3, 0);
            games.move(4, 1);
            holds(movesDone(games, who) == moves, "a fight done by hand");
        }
    }

    /** In slots 3 and 4, by replies, or by the first move there is. */
    private static int movesDone(UppityGames games, int first) {
        for (int moves = 0; moves < 40; moves++) {
            int who = (first + moves) % 2;
            int in = games.reply(3, 4, who, 0);
            int i = in < 0 ? 0 : games.reply(3, 4, who, 1);
            if (in < 0) {
                in = games.slot(3, 2 + who) > 0 ? 0 : 1;
            }
            if (games.option(3 + in, 3 + in, who, i) < 0) {
                return moves;
            }
        }
        return -1;
    }

    private static void unordered(UppityGames games, int who) {
        int many = games.slot(0, 2 + who);
        String ahead = "";
        for (int i = 0; i < many; i++) {
            games.option(3, 0, who, i);
            String words = wordsOf(games, 3);
            holds(isAhead(ahead, words), "options stand by their words");
            ahead = words;
            for (int k = i + 1; k < many; k++) {
                games.option(4, 0, who, k);
                holds(games.order(3, 4) == 2, "no option is at most another one");
            }
        }
    }

    private static void notBypassed(UppityGames games, int who) {
        int side = who == 0 ? 1 : -1;
        int latest = 0;
        boolean allSmall = true;
        for (int i = 0; i < games.slot(0, 2 + who); i++) {
            games.option(3, 0, who, i);
            latest = Math.max(latest, 1 + games.slot(3, 1));
            allSmall &= games.slot(3, 5) == 1;
            int answers = games.slot(3, 3 - who);
            for (int k = 0; k < answers; k++) {
                games.option(4, 3, 1 - who, k);
                int order = games.order(4, 0);
                holds(order == 2 || order == side, "no option has an answer that is no worse for the other one");
            }
        }
        holds(games.slot(0, 1) >= latest, "a game is born behind its options");
        holds(games.slot(0, 5) == 0 || allSmall, "options of a small game are small");
    }

    private static void madeOfItsOptions(UppityGames games) {
        int left = games.slot(0, 2);
        int both = left + games.slot(0, 3);
        if (both > 7) {
            return;
        }
        int sets = 0;
        for (int n = 0; n < both; n++) {
            games.option(1 + n, 0, n < left ? 0 : 1, n < left ? n : n - left);
            sets |= 2 << n;
        }
        int ofLeft = (2 << left) - 2;
        int width = games.slot(0, 0);
        games.move(0, 0);
        holds(games.made(0, ofLeft, sets & ~ofLeft) == width, "a game made of its options is as wide");
        games.undo();
        games.image();
        games.made(0, ofLeft, sets & ~ofLeft);
        String again = wordsOf(games, 0);
        games.restore();
        holds(again.equals(wordsOf(games, 0)), "a game made of its options is the same one");
    }

    private static boolean isAhead(String words, String others) {
        int byLength = Integer.compare(words.length(), others.length());
        return byLength < 0 || byLength == 0 && words.compareTo(others) < 0;
    }

    private static String wordsOf(UppityGames games, int s) {
        StringBuilder words = new StringBuilder();
        int length = games.slot(s, 6);
        for (int i = 0; i < length; i++) {
            words.append((char) games.word(s, i));
        }
        return words.toString();
    }

    /** The words of a game are a text of it, as long as no more than 5 signs are open at once. */
    private static void readByItsWords(UppityGames games) {
        String words = wordsOf(games, 0);
        for (Calls feed : Calls.feeds(words)) {
            games.feed(feed.arguments[0], (int) feed.arguments[1]);
        }
        int deep = firstTooDeep(words);
        int answer = games.game(3);
        holds(answer == (deep < 0 ? games.slot(0, 0) : -10 - deep), "words read as a text");
        holds(deep >= 0 || games.order(0, 3) == 0, "words read as a text are the same game");
    }

    private static int firstTooDeep(String words) {
        int open = 0;
        for (int i = 0; i < words.length(); i++) {
            char sign = words.charAt(i);
            if (sign == '}') {
                open--;
            } else if ((sign == '{' || sign == '-') && open == 5) {
                return i;
            } else if (sign == '{') {
                open++;
            }
        }
        return -1;
    }

    private static void places(int day) {
        String ahead = "";
        int many = new UppityGames().born(day, -1, 0);
        for (int i = 0; i < many; i++) {
            UppityGames games = new UppityGames();
            games.born(day, i, 5);
            String words = wordsOf(games, 5);
            holds(games.place(day, 5) == i, "a game stands in its place");
            holds(games.slot(5, 5) == 1 && games.slot(5, 1) <= day, "small, and born by that day");
            holds(isAhead(ahead, words), "by their words");
            ahead = words;
        }
    }
}
