import java.io.IOException;
import java.nio.file.Files;
import java.nio.file.Path;
import java.util.regex.Matcher;
import java.util.regex.Pattern;

/** The example in README.md: each call answers what stands behind it. */
public final class ReadmeTest {
    private static final Pattern CALL = Pattern.compile("games\\.(\\w+)\\(([^)]*)\\); +// (-?\\d+)[:,].*");

    public static void main(String[] args) throws IOException {
        UppityGames games = new UppityGames();
        int done = 0;
        int wrong = 0;
        for (String line : Files.readAllLines(Path.of("README.md"))) {
            Matcher call = CALL.matcher(line);
            if (call.matches()) {
                int got = called(call.group(1), call.group(2), games);
                done++;
                if (got != Integer.parseInt(call.group(3))) {
                    wrong++;
                    System.out.println(line + " -- answered " + got);
                }
            } else if (line.startsWith("games.")) {
                wrong++;
                System.out.println("no answer is told: " + line);
            }
        }
        System.out.println("README.md: " + done + " calls, " + wrong + " wrong");
        if (wrong > 0 || done < 20) {
            System.exit(1);
        }
    }

    private static int called(String name, String arguments, UppityGames games) {
        String[] parts = arguments.isEmpty() ? new String[0] : arguments.split(", ");
        long[] numbers = new long[parts.length];
        for (int i = 0; i < parts.length; i++) {
            numbers[i] = Long.parseLong(parts[i].replace("L", ""));
        }
        return new Calls(name, numbers).on(games);
    }
}
