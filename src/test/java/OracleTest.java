import java.util.ArrayList;
import java.util.List;
import java.util.Random;

/** Random runs of 512 calls, each answer compared with that of the document as it is read word by word. */
public final class OracleTest {
    public static void main(String[] args) {
        int runs = args.length > 0 ? Integer.parseInt(args[0]) : 120;
        int from = args.length > 1 ? Integer.parseInt(args[1]) : 0;
        int wrong = 0;
        for (int run = from; run < from + runs && wrong < 5; run++) {
            wrong += oneRun(run);
        }
        System.out.println(runs + " runs, " + wrong + " wrong");
        if (wrong > 0) {
            System.exit(1);
        }
    }

    private static int oneRun(int seed) {
        Random random = new Random(seed);
        UppityGames games = new UppityGames();
        NaiveGames naive = new NaiveGames();
        List<String> trace = new ArrayList<>();
        int done = 0;
        while (done < 512) {
            List<Calls> next = new ArrayList<>();
            if (random.nextInt(10) == 0) {
                next.addAll(Calls.feeds(Calls.randomText(random)));
                next.add(new Calls("game", random.nextInt(8)));
            } else {
                next.add(Calls.random(random, seed % 10 == 9));
            }
            for (int i = 0; i < next.size() && done < 512; i++) {
                Calls call = next.get(i);
                String ahead = naive.toString();
                int got = call.on(games);
                int due = call.on(naive);
                trace.add(call + " = " + due);
                done++;
                if (got != due) {
                    System.out.println("run " + seed + ", call " + done + ": " + call + " answered " + got + ", due is "
                            + due + "; the slots held " + ahead);
                    System.out.println("  latest: " + trace.subList(Math.max(0, trace.size() - 8), trace.size()));
                    return 1;
                }
            }
        }
        return 0;
    }
}
