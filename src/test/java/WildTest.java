import java.lang.reflect.Method;
import java.lang.reflect.Modifier;
import java.util.ArrayList;
import java.util.List;
import java.util.Random;

/**
 * Wild arguments: nothing is ever thrown, and an act that answers an error changes nothing but what told() tells:
 * a twin that is spared all the refused calls answers the others just so, and is the same in the end.
 */
public final class WildTest {
    private static final int LOW = -1100000000;
    private static final int RUNS = 600;
    /** Asking for the state takes 287 calls, so that all of them are within the 512 of an object. */
    private static final int CALLS = 220;
    private static final int[] WILD = {Integer.MIN_VALUE, Integer.MIN_VALUE + 1, LOW - 1, -65536, -256, -10, -9, -5, -4, -2, -1,
        0, 1, 2, 3, 4, 5, 6, 7, 8, 9, 10, 11, 16, 24, 25, 31, 32, 33, 63, 64, 65, 66, 67, 127, 128, 255, 256, 65536,
        Integer.MAX_VALUE - 1, Integer.MAX_VALUE};

    public static void main(String[] args) {
        int wrong = 0;
        for (int run = 0; run < RUNS && wrong < 5; run++) {
            wrong += oneRun(run);
        }
        System.out.println(RUNS + " wild runs, " + wrong + " wrong");
        if (wrong > 0) {
            System.exit(1);
        }
    }

    private static int oneRun(int seed) {
        Random random = new Random(seed);
        List<Method> face = face();
        UppityGames games = new UppityGames();
        UppityGames twin = new UppityGames();
        for (int n = 0; n < CALLS; n++) {
            Calls call = wild(face, random);
            int answer;
            try {
                answer = call.on(games);
            } catch (IllegalStateException e) {
                System.out.println("run " + seed + ": " + e.getMessage() + ": " + e.getCause().getCause());
                return 1;
            }
            boolean spared = call.name.equals("told")
                    || answer < LOW && !call.name.equals("at") && !call.name.equals("game");
            if (!spared && call.on(twin) != answer) {
                System.out.println("run " + seed + ": " + call + " answered " + answer + ", and otherwise to the twin");
                return 1;
            }
        }
        String state = state(games);
        String due = state(twin);
        if (!state.equals(due)) {
            System.out.println("run " + seed + ": in the end\n" + state + "\nand the twin\n" + due);
            return 1;
        }
        return 0;
    }

    private static List<Method> face() {
        List<Method> face = new ArrayList<>();
        for (Method method : UppityGames.class.getDeclaredMethods()) {
            if (Modifier.isPublic(method.getModifiers())) {
                face.add(method);
            }
        }
        face.sort((a, b) -> a.getName().compareTo(b.getName()));
        return face;
    }

    private static Calls wild(List<Method> face, Random random) {
        Method method = face.get(random.nextInt(face.size()));
        long[] arguments = new long[method.getParameterCount()];
        for (int i = 0; i < arguments.length; i++) {
            arguments[i] = random.nextInt(3) == 0 ? random.nextInt(3) : WILD[random.nextInt(WILD.length)];
        }
        return new Calls(method.getName(), arguments);
    }

    private static String state(UppityGames games) {
        StringBuilder text = new StringBuilder();
        for (int s = 0; s < 8; s++) {
            for (int what = 0; what < 9; what++) {
                text.append(games.slot(s, what)).append(' ');
            }
            for (int i = 0; i < 12; i++) {
                text.append(games.word(s, i)).append(' ');
            }
        }
        for (int what = 0; what < 6; what++) {
            text.append(games.count(what)).append(' ');
        }
        for (int sheet = 0; sheet < 4; sheet++) {
            for (int i = 0; i < 24; i++) {
                text.append(games.at(sheet, i)).append(' ');
            }
        }
        for (int n = 0; n < 8; n++) {
            text.append(games.undo()).append(' ').append(games.count(1)).append(' ');
        }
        text.append(games.restore());
        return text.toString();
    }
}
