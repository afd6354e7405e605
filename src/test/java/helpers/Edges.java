import java.io.IOException;
import java.nio.file.Files;
import java.nio.file.Path;
import java.util.Set;
import java.util.TreeSet;

/** What the tests of edges share: the sentence of the document that is asked, and the answers that are due by it. */
public final class Edges {
    static final int BEYOND = -1100000001;
    static final int NONE = -1100000002;
    static final int STATE = -1100000003;
    static final int FULL = -1100000004;
    static final int KIND = -1100000005;
    static final int MISSING = -1100000006;
    static final int LEAST = Integer.MIN_VALUE;
    static final int MOST = Integer.MAX_VALUE;

    private static int promise;
    private static String sentence = "";
    private static int asked;
    private static final StringBuilder WRONG = new StringBuilder();
    private static final Set<String> SAID = new TreeSet<>();

    private Edges() {
    }

    /** All that is due till the next call is due by this sentence; promise 0 is what stands ahead of promise 1. */
    static void says(int number, String words) {
        promise = number;
        sentence = words;
        SAID.add(number + " " + words);
    }

    static void due(long got, long want) {
        asked++;
        if (got != want) {
            report("answered " + got + ", due is " + want);
        }
    }

    static void dueWords(UppityGames x, int s, String want) {
        asked++;
        String words = words(x, s);
        if (!words.equals(want)) {
            report("words " + words + ", due are " + want);
        }
    }

    /** A text whose game a slot holds then, with these words. */
    static void dueText(UppityGames x, String text, String want) {
        due(text(x, 0, text) > 0 ? 1 : 0, 1);
        dueWords(x, 0, want);
    }

    static void dueFault(UppityGames x, String text, int place) {
        due(text(x, 0, text), -10 - place);
    }

    static void dueRow(UppityGames x, int sheet, int... row) {
        for (int i = 0; i < row.length; i++) {
            due(x.at(sheet, i), row[i]);
        }
    }

    /** One argument (from 0) may be as low and as high as told, and not beyond that. */
    static void dueWithin(UppityGames x, int argument, int least, int most, String name, long... arguments) {
        for (int n : new int[] {least, most}) {
            asked++;
            int got = changed(name, arguments, argument, n).on(x);
            if (got == BEYOND) {
                report(changed(name, arguments, argument, n) + " answered BEYOND");
            }
        }
        for (int n : new int[] {least - 1, most + 1, LEAST, MOST}) {
            asked++;
            int got = changed(name, arguments, argument, n).on(x);
            if (got != BEYOND) {
                report(changed(name, arguments, argument, n) + " answered " + got + ", due is BEYOND");
            }
        }
    }

    private static Calls changed(String name, long[] arguments, int argument, int n) {
        long[] all = arguments.clone();
        all[argument] = n;
        return new Calls(name, all);
    }

    static String words(UppityGames x, int s) {
        StringBuilder words = new StringBuilder();
        int bytes = x.slot(s, 6);
        for (int i = 0; i < bytes; i++) {
            words.append((char) x.word(s, i));
        }
        return words.toString();
    }

    static void feed(UppityGames x, String text) {
        for (Calls call : Calls.feeds(text)) {
            call.on(x);
        }
    }

    static int text(UppityGames x, int s, String text) {
        feed(x, text);
        return x.game(s);
    }

    /** Empty, if all was as it is due; else a line for each answer that was not. */
    static String wrong() {
        return WRONG.toString();
    }

    static void end(String test) throws IOException {
        compareWithDocument();
        System.out.print(WRONG);
        System.out.println(test + ": " + asked + " answers, " + (WRONG.length() == 0 ? "all as due" : "not all as due"));
        if (WRONG.length() > 0) {
            System.exit(1);
        }
    }

    /** Each sentence stands in the document word by word, under its promise. */
    private static void compareWithDocument() throws IOException {
        String[] parts = Files.readString(Path.of("../shared/DOC.md")).replaceAll("\\s+", " ").split("## Promise \\d+: ");
        for (String said : SAID) {
            int space = said.indexOf(' ');
            int number = Integer.parseInt(said.substring(0, space));
            if (number >= parts.length || !parts[number].contains(said.substring(space + 1))) {
                WRONG.append("the document doesn't say under promise ").append(said).append('\n');
            }
        }
    }

    private static void report(String what) {
        StackTraceElement[] all = Thread.currentThread().getStackTrace();
        int n = 1;
        while (all[n].getClassName().equals("Edges")) {
            n++;
        }
        StackTraceElement from = all[n];
        WRONG.append("promise ").append(promise).append(" (").append(sentence).append("), ").append(from.getFileName())
                .append(" line ").append(from.getLineNumber()).append(": ").append(what).append('\n');
    }
}
