import java.io.ByteArrayOutputStream;
import java.io.IOException;
import java.io.OutputStream;
import java.lang.reflect.Method;
import java.net.URI;
import java.nio.file.Files;
import java.nio.file.Path;
import java.util.ArrayList;
import java.util.HashMap;
import java.util.List;
import java.util.Map;
import java.util.concurrent.ExecutionException;
import java.util.concurrent.ExecutorService;
import java.util.concurrent.Executors;
import java.util.concurrent.Future;
import java.util.concurrent.TimeUnit;
import java.util.concurrent.TimeoutException;
import java.util.regex.Matcher;
import java.util.regex.Pattern;
import java.util.stream.Stream;
import javax.tools.ForwardingJavaFileManager;
import javax.tools.JavaCompiler;
import javax.tools.JavaFileManager;
import javax.tools.JavaFileObject;
import javax.tools.SimpleJavaFileObject;
import javax.tools.ToolProvider;

/**
 * Tests the tests of edges: for each mutant, a program in which one sentence of the document is broken, one test under
 * that sentence's promise must fail. Mutants stand in mutants.txt; those of BEYOND are made from the face itself.
 */
public final class Mutants {
    private static final String[] TESTS = {"EdgesOfErrorsTest", "EdgesOfGamesTest", "EdgesOfSlotsTest", "EdgesOfWeightsTest",
        "EdgesOfTextsTest", "EdgesOfSheetsTest"};
    private static final Pattern TERM = Pattern.compile("!(\\w+\\.)?is(Slot|Set|Bit|Within|Sheet|Day|Kind)\\(([^()]*)\\)");

    private static final class Mutant {
        final String sentence;
        final int from;
        final String old;
        final String with;

        Mutant(String sentence, int from, String old, String with) {
            this.sentence = sentence;
            this.from = from;
            this.old = old;
            this.with = with;
        }

        int promise() {
            return Integer.parseInt(sentence.split(" ")[0]);
        }

        String program(String clean) {
            return clean.substring(0, from) + with + clean.substring(from + old.length());
        }
    }

    private static final Map<String, byte[]> TEST_CLASSES = new HashMap<>();

    /** The program's text, the folder of the compiled tests, the list of mutants. */
    public static void main(String[] args) throws IOException, InterruptedException, ExecutionException {
        String clean = Files.readString(Path.of(args[0]));
        try (Stream<Path> files = Files.list(Path.of(args[1]))) {
            for (Path file : files.toList()) {
                String name = file.getFileName().toString().replace(".class", "");
                if (!name.startsWith("UppityGames")) {
                    TEST_CLASSES.put(name, Files.readAllBytes(file));
                }
            }
        }
        List<Mutant> all = new ArrayList<>();
        int lost = read(all, clean, Files.readAllLines(Path.of(args[2])));
        beyond(all, clean);
        ExecutorService workers = Executors.newFixedThreadPool(Runtime.getRuntime().availableProcessors());
        List<Future<String>> answers = new ArrayList<>();
        for (Mutant mutant : all) {
            answers.add(workers.submit(() -> failures(mutant.program(clean))));
        }
        int missed = 0;
        for (int i = 0; i < all.size(); i++) {
            missed += judged(all.get(i), answers.get(i)) ? 0 : 1;
        }
        System.out.println(all.size() + " mutants, " + missed + " that no test of their sentence's promise has seen, "
                + lost + " that do not fit the program any more");
        System.exit(missed + lost > 0 ? 1 : 0);
    }

    private static boolean judged(Mutant mutant, Future<String> answer) throws InterruptedException, ExecutionException {
        String failures;
        try {
            failures = answer.get(60, TimeUnit.SECONDS);
        } catch (TimeoutException e) {
            return true;
        }
        if (failures.contains("promise " + mutant.promise() + " (")) {
            return true;
        }
        System.out.println("not seen: " + mutant.sentence + ": " + mutant.old + " -> " + mutant.with
                + (failures.isEmpty() ? "" : "; but " + failures.split("\n")[0]));
        return false;
    }

    private static int read(List<Mutant> all, String clean, List<String> lines) {
        String sentence = "";
        int begin = 0;
        String old = "";
        int lost = 0;
        for (String line : lines) {
            String rest = line.length() > 2 ? line.substring(2).replace("\\n", "\n") : "";
            if (line.startsWith("# ")) {
                sentence = rest;
            } else if (line.startsWith("@ ")) {
                begin = Math.max(0, clean.indexOf(rest));
            } else if (line.startsWith("- ")) {
                old = rest;
            } else if (line.startsWith("+ ")) {
                int from = clean.indexOf(old, begin);
                if (from < 0) {
                    System.out.println("not there: " + sentence + ": " + old);
                    lost++;
                } else {
                    all.add(new Mutant(sentence, from, old, rest));
                }
            }
        }
        return lost;
    }

    /** Each check of an argument left out, each bound moved by one; promises are numbered as the face stands. */
    private static void beyond(List<Mutant> all, String clean) {
        Matcher head = Pattern.compile("\n    public int \\w+\\(.*?\n    }\n", Pattern.DOTALL).matcher(clean);
        for (int promise = 2; head.find(); promise++) {
            Matcher term = TERM.matcher(head.group());
            while (term.find()) {
                int from = head.start() + term.start();
                all.add(new Mutant(promise + " BEYOND", from, term.group(), "false"));
                String[] parts = term.group(3).split(", ");
                if (term.group(2).equals("Within")) {
                    int least = Integer.parseInt(parts[1]);
                    int most = Integer.parseInt(parts[2]);
                    for (int[] bounds : new int[][] {{least - 1, most}, {least + 1, most}, {least, most - 1}, {least, most + 1}}) {
                        String with = "!isWithin(" + parts[0] + ", " + bounds[0] + ", " + bounds[1] + ")";
                        all.add(new Mutant(promise + " BEYOND", from, term.group(), with));
                    }
                }
            }
        }
    }

    /** What the tests of edges say of this program. */
    private static String failures(String program) {
        Map<String, ByteArrayOutputStream> classes = compiled(program);
        ClassLoader loader = new ClassLoader(ClassLoader.getPlatformClassLoader()) {
            @Override
            protected Class<?> findClass(String name) throws ClassNotFoundException {
                byte[] bytes = classes.containsKey(name) ? classes.get(name).toByteArray() : TEST_CLASSES.get(name);
                if (bytes == null) {
                    throw new ClassNotFoundException(name);
                }
                return defineClass(name, bytes, 0, bytes.length);
            }
        };
        StringBuilder all = new StringBuilder();
        for (String test : TESTS) {
            try {
                called(loader, test, "run");
            } catch (ReflectiveOperationException e) {
                all.append(test).append(" threw ").append(e.getCause()).append('\n');
            }
        }
        try {
            return all + (String) called(loader, "Edges", "wrong");
        } catch (ReflectiveOperationException e) {
            return all + e.toString();
        }
    }

    private static Object called(ClassLoader loader, String type, String name) throws ReflectiveOperationException {
        Method method = loader.loadClass(type).getDeclaredMethod(name);
        method.setAccessible(true);
        return method.invoke(null);
    }

    private static Map<String, ByteArrayOutputStream> compiled(String program) {
        JavaCompiler compiler = ToolProvider.getSystemJavaCompiler();
        Map<String, ByteArrayOutputStream> classes = new HashMap<>();
        JavaFileObject file = new SimpleJavaFileObject(URI.create("string:///UppityGames.java"), JavaFileObject.Kind.SOURCE) {
            @Override
            public CharSequence getCharContent(boolean ignore) {
                return program;
            }
        };
        JavaFileManager files = new ForwardingJavaFileManager<JavaFileManager>(compiler.getStandardFileManager(null, null, null)) {
            @Override
            public JavaFileObject getJavaFileForOutput(Location place, String name, JavaFileObject.Kind kind, javax.tools.FileObject near) {
                return new SimpleJavaFileObject(URI.create("mem:///" + name + ".class"), kind) {
                    @Override
                    public OutputStream openOutputStream() {
                        return classes.computeIfAbsent(name, key -> new ByteArrayOutputStream());
                    }
                };
            }
        };
        if (!compiler.getTask(null, files, null, List.of("-proc:none"), null, List.of(file)).call()) {
            throw new IllegalStateException("a mutant doesn't compile");
        }
        return classes;
    }
}
