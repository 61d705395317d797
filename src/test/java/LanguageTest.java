import java.nio.file.Files;
import java.nio.file.Path;
import java.util.HashSet;
import java.util.Set;
import java.util.regex.Matcher;
import java.util.regex.Pattern;

/** What of ../shared/LANGUAGE.md can be seen from the text of the class. */
public final class LanguageTest {
    private static final Check CHECK = new Check("language");
    private static final Set<String> LIBRARY = Set.of("Integer.bitCount", "Math.min", "Math.max", "Math.abs",
            "Arrays.fill", "System.arraycopy");

    public static void main(String[] args) throws Exception {
        String text = Files.readString(Path.of("src/main/java/TrainDescriber.java"));
        String code = text.replaceAll("(?s)/\\*.*?\\*/", "").replaceAll("//[^\n]*", "").replaceAll("\"[^\"\n]*\"", "\"\"");
        none(code, "\\b(throw|try|catch|synchronized|assert|var|enum|record|protected|long\\s*\\[\\]\\s*\\[\\])\\b");
        none(code, "->|::|static\\s*\\{|\\bpackage\\b|Exact\\b|\\bthrows\\b");
        none(code, "\\b(double|float|Object|System\\.(?!arraycopy))\\b");
        only(code, "import\\s+([\\w.]+);", Set.of("java.util.Arrays"));
        only(code, "\\b((?:Integer|Long|Math|Arrays|System|String|Character)\\.\\w+)", LIBRARY);
        names(code);
        methods(text);
        int classes = 0;
        for (Matcher m = Pattern.compile("\\bclass \\w+").matcher(code); m.find();) {
            classes++;
        }
        CHECK.due("rule 11: classes " + classes, 1, classes <= 12 ? 1 : 0);
        for (int i = 0; i < text.length(); i++) {
            if (text.charAt(i) > 126) {
                CHECK.due("a sign beyond 126 at " + i, 0, 1);
            }
        }
        CHECK.end();
    }

    private static void none(String code, String pattern) {
        Matcher m = Pattern.compile(pattern).matcher(code);
        CHECK.due("none of " + pattern, 0, m.find() ? 1 : 0);
    }

    private static void only(String code, String pattern, Set<String> allowed) {
        for (Matcher m = Pattern.compile(pattern).matcher(code); m.find();) {
            CHECK.due("allowed: " + m.group(1), 1, allowed.contains(m.group(1)) ? 1 : 0);
        }
    }

    /** No method of the classes inside, nor a private one, bears the name of a public one. */
    private static void names(String code) {
        Set<String> face = new HashSet<>();
        for (Matcher m = Pattern.compile("public int (\\w+)\\(").matcher(code); m.find();) {
            CHECK.due("public twice: " + m.group(1), 1, face.add(m.group(1)) ? 1 : 0);
        }
        CHECK.due("public methods", 55, face.size());
        Pattern own = Pattern.compile("(?m)^ +(?:private )?(?:static )?(?:int|boolean|void|Rules|Mender|State) (\\w+)\\(");
        for (Matcher m = own.matcher(code); m.find();) {
            CHECK.due("rule 1: " + m.group(1), 0, face.contains(m.group(1)) ? 1 : 0);
        }
        for (Matcher m = Pattern.compile("static (?!final)[\\w\\[\\]]+ \\w+\\s*[=;]").matcher(code); m.find();) {
            CHECK.due("rule 5: " + m.group(), 0, 1);
        }
        for (Matcher m = Pattern.compile("\\(([^()]*)\\) \\{").matcher(code); m.find();) {
            CHECK.due("rule 11: " + m.group(), 1, m.group(1).split(",").length <= 7 ? 1 : 0);
        }
    }

    private static void methods(String text) {
        String[] lines = text.split("\n");
        Pattern head = Pattern.compile("^( +)(?:public |private |static |final )*[\\w\\[\\]]+ ?\\w*\\(.*\\) \\{$");
        for (int i = 0; i < lines.length; i++) {
            Matcher m = head.matcher(lines[i]);
            if (!m.matches() || m.group(1).length() > 8) {
                continue;
            }
            int end = i;
            while (end < lines.length && !lines[end].equals(m.group(1) + "}")) {
                end++;
            }
            CHECK.due("rule 11: lines of " + lines[i].trim(), 1, end - i < 60 ? 1 : 0);
        }
        for (String line : lines) {
            CHECK.due("a long line: " + line, 1, line.length() <= 120 ? 1 : 0);
        }
    }
}
