import java.lang.reflect.Method;
import java.lang.reflect.Modifier;
import java.util.ArrayList;
import java.util.List;
import java.util.Random;

/** Wild arguments: nothing is ever thrown, and an act that answers an error changes nothing but what told() tells. */
public final class WildTest {
    private static final int LOW = -1100000000;
    private static final int[] WILD = {Integer.MIN_VALUE, Integer.MIN_VALUE + 1, LOW - 1, -65536, -256, -10, -9, -5, -4, -2, -1,
        0, 1, 2, 3, 4, 5, 6, 7, 8, 9, 10, 11, 16, 24, 25, 31, 32, 33, 63, 64, 65, 66, 67, 127, 128, 255, 256, 65536,
        Integer.MAX_VALUE - 1, Integer.MAX_VALUE};

    public static void main(String[] args) {
        int wrong = 0;
        for (int run = 0; run < 400 && wrong < 5; run++) {
            wrong += oneRun(run);
        }
        System.out.println("400 wild runs, " + wrong + " wrong");
        if (wrong > 0) {
            System.exit(1);
        }
    }

    private static int oneRun(int seed) {
        Random random = new Random(seed);
        UppityGames games = new UppityGames();
        List<Method> face = new ArrayList<>();
        for (Method method : UppityGames.class.getDeclaredMethods()) {
            if (Modifier.isPublic(method.getModifiers())) {
                face.add(method);
            }
        }
        face.sort((a, b) -> a.getName().compareTo(b.getName()));
        for (int n = 0; n < 250; n++) {
            Method method = face.get(random.nextInt(face.size()));
            long[] arguments = new long[method.getParameterCount()];
            for (int i = 0; i < arguments.length; i++) {
                arguments[i] = random.nextInt(3) == 0 ? random.nextInt(3) : WILD[random.nextInt(WILD.length)];
            }
            Calls call = new Calls(method.getName(), arguments);
            String ahead = state(games);
            int answer;
            try {
                answer = call.on(games);
            } catch (IllegalStateException e) {
                System.out.println("run " + seed + ": " + e.getMessage() + ": " + e.getCause().getCause());
                return 1;
            }
            boolean mayChange = answer >= LOW || method.getName().equals("at") || method.getName().equals("game");
            if (!mayChange && !ahead.equals(state(games))) {
                System.out.println("run " + seed + ": " + call + " answered " + answer + " and changed\n" + ahead + "\nto\n" + state(games));
                return 1;
            }
        }
        return 0;
    }

    /** All that can be asked without an error; asking errs where a sheet is missing, and told() isn't in it. */
    private static String state(UppityGames games) {
        StringBuilder text = new StringBuilder();
        for (int s = 0; s < 8; s++) {
            int bytes = games.slot(s, 6);
            for (int i = 0; i < bytes; i++) {
                text.append((char) games.word(s, i));
            }
            text.append(' ');
        }
        for (int what = 0; what < 6; what++) {
            text.append(games.count(what)).append(' ');
        }
        for (int sheet = 0; sheet < 4; sheet++) {
            for (int i = 0; i < 24; i++) {
                text.append(games.at(sheet, i)).append(' ');
            }
        }
        return text.toString();
    }
}
