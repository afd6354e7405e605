import java.io.IOException;
import java.nio.file.Files;
import java.nio.file.Path;
import java.util.ArrayList;
import java.util.List;
import java.util.Set;
import java.util.TreeSet;
import java.util.regex.Matcher;
import java.util.regex.Pattern;

/** Rules of the document LANGUAGE.md that can be seen in the program's text. */
public final class RulesTest {
    private static final Pattern METHOD =
            Pattern.compile("^( +)((?:private|public|static|final|abstract)[ \\w\\[\\]]*?) (\\w+)\\(([^)]*)\\) \\{$");
    private static int wrong;

    public static void main(String[] args) throws IOException {
        Path file = Path.of("src/main/java/UppityGames.java");
        List<String> lines = Files.readAllLines(file);
        String code = stripped(Files.readString(file));
        never(code, "->", "::", "\\bthrow\\b", "\\bthrows\\b", "\\btry\\b", "\\bcatch\\b", "\\bfinally\\b", "\\bsynchronized\\b",
                "\\bassert\\b", "\\bpackage\\b", "\\bvar\\b", "\\brecord\\b", "\\bprotected\\b", "\\bnative\\b", "Exact\\(",
                "\\bSystem\\.(?!arraycopy)", "\\bThread\\b", "\\bRandom\\b", "\\bfloat\\b", "\\bdouble\\b", "@",
                "\"\" *\\+", "\\+ *\"\"", "\\bString\\b", "\\.clone\\(", "%|(?<!/)/(?![/*])(?! 64;)");
        for (String line : lines) {
            boolean isImport = line.startsWith("import ");
            complainIf(isImport && !line.equals("import java.util.Arrays;"), line);
            complainIf(line.matches("    [^ ].*[({;]") && !line.matches("    (private|public|//|\\*).*") && !line.startsWith("    }"), line);
            complainIf(line.matches("        (static|final).*"), line);
        }
        complainIf(count(code, "\\bclass \\w+") > 12, "classes");
        complainIf(!code.chars().allMatch(c -> c < 128), "signs");
        methods(lines);
        System.out.println("rules: " + wrong + " complaints");
        if (wrong > 0) {
            System.exit(1);
        }
    }

    private static void methods(List<String> lines) throws IOException {
        Set<String> face = new TreeSet<>();
        List<String> others = new ArrayList<>();
        for (int i = 0; i < lines.size(); i++) {
            Matcher method = METHOD.matcher(lines.get(i));
            if (!method.matches()) {
                continue;
            }
            String indent = method.group(1);
            String end = indent + "}";
            int last = i;
            while (!lines.get(last).equals(end)) {
                last++;
            }
            complainIf(last - i > 60, "long: " + lines.get(i));
            complainIf(method.group(4).split(",").length > 7, "parameters: " + lines.get(i));
            if (method.group(2).startsWith("public")) {
                complainIf(indent.length() != 4, "public inside: " + lines.get(i));
                face.add(method.group(3));
            } else {
                others.add(method.group(3));
            }
        }
        faceAsTold(lines);
        for (String other : others) {
            complainIf(face.contains(other), "named as one of the face: " + other);
        }
        complainIf(others.size() < 60, "only " + others.size() + " other methods found");
    }

    /** The public lines are those of the document, in its order. */
    private static void faceAsTold(List<String> lines) throws IOException {
        List<String> told = new ArrayList<>();
        for (String line : Files.readAllLines(Path.of("../shared/DOC.md"))) {
            if (line.startsWith("    public ") || line.equals("public final class UppityGames {")) {
                told.add(line.strip().replaceAll(" ?[;{]$", ""));
            }
        }
        List<String> there = new ArrayList<>();
        for (String line : lines) {
            if (line.strip().startsWith("public ")) {
                there.add(line.strip().replaceAll(" ?[;{]$", ""));
            }
        }
        complainIf(told.size() != 37 || !told.equals(there), "the face is " + there + ", due is " + told);
    }

    private static String stripped(String text) {
        return text.replaceAll("(?s)/\\*.*?\\*/", "").replaceAll("//[^\n]*", "").replaceAll("\"[^\"]*\"", "\"\"");
    }

    private static void never(String code, String... patterns) {
        for (String pattern : patterns) {
            Matcher found = Pattern.compile(pattern).matcher(code);
            if (found.find()) {
                int from = code.lastIndexOf('\n', found.start()) + 1;
                complainIf(true, pattern + ": " + code.substring(from, code.indexOf('\n', found.start())));
            }
        }
    }

    private static int count(String code, String pattern) {
        return (int) Pattern.compile(pattern).matcher(code).results().count();
    }

    private static void complainIf(boolean bad, String what) {
        if (bad) {
            wrong++;
            System.out.println("against the rules: " + what);
        }
    }
}
