import java.lang.reflect.InvocationTargetException;
import java.lang.reflect.Method;
import java.util.ArrayList;
import java.util.List;
import java.util.Random;

/** Calls of the face by name, and random ones: mostly with arguments that the document names, now and then without. */
public final class Calls {
    /** Each call, how often it comes, and from where to where its arguments go. */
    private static final String[] FACE = {
        "slot 8 0 7 0 8", "integer 4 0 7", "word 4 0 7 0 20", "whole 3 0 7 -9 9", "heap 3 0 7 0 9",
        "ups 4 0 7 -4 4 0 5", "flower 5 0 7 1 4 0 3 0 3", "made 14 0 7 0 255 0 255", "plus 8 0 7 0 7 0 7",
        "minus 4 0 7 0 7", "option 8 0 7 0 7 0 1 0 3", "move 4 0 7 0 7", "undo 5", "order 6 0 7 0 7",
        "outcome 6 0 7 0 7", "far 4 0 7", "weight 4 0 7 0 7", "atomic 6 0 7", "ahead 5 0 7", "garden 6 0 255",
        "reply 8 0 7 0 7 0 1 0 1", "fight 8 0 7 0 7 0 1 0 1", "plays 8 0 3 0 7 0 1", "born 7 0 3 -1 67 0 7",
        "place 6 0 3 0 7", "feed 3 0 0 1 8", "game 2 0 7", "sheet 3 0 3 0 32 0 24", "put 8 0 3 0 23 0 3", "at 4 0 3 0 23",
        "copy 4 0 3 0 12 0 3 0 12 0 12", "image 2", "restore 1", "count 4 0 5", "told 3 1 6"};
    private static final int[] EXTREMES = {Integer.MIN_VALUE, Integer.MIN_VALUE + 1, -1100000001, -257, -2, -1, 0, 1, 2, 3,
        7, 8, 9, 10, 24, 25, 31, 32, 33, 64, 128, 255, 256, 1 << 16, Integer.MAX_VALUE - 1, Integer.MAX_VALUE};

    final String name;
    final long[] arguments;

    Calls(String name, long... arguments) {
        this.name = name;
        this.arguments = arguments;
    }

    static Calls random(Random random, boolean wild) {
        String[] parts = pick(random).split(" ");
        int many = (parts.length - 2) / 2;
        long[] arguments = new long[many];
        boolean oneWrong = random.nextInt(wild ? 2 : 12) == 0;
        for (int i = 0; i < many; i++) {
            int least = Integer.parseInt(parts[2 + 2 * i]);
            int most = Integer.parseInt(parts[3 + 2 * i]);
            arguments[i] = least + random.nextInt(most - least + 1);
            if (oneWrong && random.nextInt(many) == 0) {
                arguments[i] = random.nextBoolean() ? EXTREMES[random.nextInt(EXTREMES.length)]
                        : random.nextBoolean() ? least - 1 : most + 1;
            }
        }
        String name = parts[0];
        if (name.equals("feed")) {
            arguments[0] = random.nextLong();
        } else if (name.equals("sheet") && random.nextInt(8) > 0) {
            arguments[1] = new int[] {8, 16, 32, 32, 0}[random.nextInt(5)];
        } else if (name.equals("put") && random.nextInt(3) == 0) {
            arguments[2] = random.nextInt();
        } else if (name.equals("made") && random.nextInt(3) > 0) {
            arguments[1] &= random.nextInt(256);
            arguments[2] &= random.nextInt(256);
        }
        return new Calls(name, arguments);
    }

    private static String pick(Random random) {
        int all = 0;
        for (String call : FACE) {
            all += Integer.parseInt(call.split(" ")[1]);
        }
        int n = random.nextInt(all);
        for (String call : FACE) {
            n -= Integer.parseInt(call.split(" ")[1]);
            if (n < 0) {
                return call;
            }
        }
        return FACE[0];
    }

    /** A text comes to the tape by as few calls as it takes. */
    static List<Calls> feeds(String text) {
        List<Calls> all = new ArrayList<>();
        for (int from = 0; from < text.length(); from += 8) {
            String part = text.substring(from, Math.min(from + 8, text.length()));
            long word = 0;
            for (int i = 0; i < part.length(); i++) {
                word |= (long) (part.charAt(i) & 255) << 8 * i;
            }
            all.add(new Calls("feed", word, part.length()));
        }
        return all;
    }

    /** A text of a game, often with a fault. */
    static String randomText(Random random) {
        StringBuilder text = new StringBuilder();
        addSum(text, random, 0, random.nextInt(7));
        if (random.nextInt(3) == 0) {
            String signs = "0123456789*^-{}|,+ ~\u00e9";
            for (int many = 1 + random.nextInt(2); many > 0; many--) {
                int where = random.nextInt(text.length() + 1);
                char sign = signs.charAt(random.nextInt(signs.length()));
                switch (random.nextInt(3)) {
                    case 0: text.insert(where, sign); break;
                    case 1: text.setLength(Math.max(where, 1)); break;
                    default: text.setCharAt(Math.min(where, text.length() - 1), sign); break;
                }
            }
        }
        return text.length() > 120 ? text.substring(0, 120) : text.toString();
    }

    private static void addSum(StringBuilder text, Random random, int open, int most) {
        addUnit(text, random, open, most);
        while (random.nextInt(4) == 0) {
            text.append('+');
            addUnit(text, random, open, most);
        }
    }

    private static void addUnit(StringBuilder text, Random random, int open, int most) {
        int kind = random.nextInt(open < most ? 10 : 5);
        if (kind == 0) {
            text.append(random.nextInt(4) == 0 ? random.nextInt(15) : random.nextInt(3));
        } else if (kind == 1) {
            text.append('*');
        } else if (kind == 2) {
            text.append('*').append(random.nextInt(random.nextInt(4) == 0 ? 14 : 4));
        } else if (kind == 3) {
            text.append('^');
        } else if (kind == 4) {
            text.append('0');
        } else if (kind < 7) {
            text.append('-');
            addUnit(text, random, open + 1, most);
        } else {
            text.append('{');
            addOptions(text, random, open + 1, most);
            text.append('|');
            addOptions(text, random, open + 1, most);
            text.append('}');
        }
    }

    private static void addOptions(StringBuilder text, Random random, int open, int most) {
        int many = random.nextInt(10) == 0 ? 0 : 1 + random.nextInt(2);
        for (int i = 0; i < many; i++) {
            if (i > 0) {
                text.append(',');
            }
            addSum(text, random, open, most);
        }
    }

    int on(Object games) {
        for (Method method : games.getClass().getDeclaredMethods()) {
            if (method.getName().equals(name) && method.getParameterCount() == arguments.length
                    && (method.getModifiers() & java.lang.reflect.Modifier.PUBLIC) != 0) {
                return invoked(method, games);
            }
        }
        throw new IllegalStateException("no such call: " + this);
    }

    private int invoked(Method method, Object games) {
        Object[] all = new Object[arguments.length];
        for (int i = 0; i < all.length; i++) {
            boolean isLong = method.getParameterTypes()[i] == long.class;
            all[i] = isLong ? (Object) arguments[i] : (Object) (int) arguments[i];
        }
        try {
            return (Integer) method.invoke(games, all);
        } catch (IllegalAccessException | InvocationTargetException e) {
            throw new IllegalStateException(this + " threw", e);
        }
    }

    @Override
    public String toString() {
        StringBuilder text = new StringBuilder(name).append('(');
        for (int i = 0; i < arguments.length; i++) {
            text.append(i == 0 ? "" : ", ").append(arguments[i]);
        }
        return text.append(')').toString();
    }
}
