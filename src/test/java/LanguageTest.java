import java.io.IOException;
import java.nio.charset.StandardCharsets;
import java.nio.file.Files;
import java.nio.file.Path;
import java.util.List;
import java.util.regex.Matcher;
import java.util.regex.Pattern;

/** What can be seen of ../shared/LANGUAGE.md in the text of the program. .ci/run tells where the project is. */
public final class LanguageTest {
    private static final String[] RULED_OUT = {
        "\\bthrow\\b", "\\btry\\b", "\\bcatch\\b", "\\bfinally\\b", "\\bthrows\\b", "\\bsynchronized\\b", "\\bassert\\b",
        "\\bprotected\\b", "\\bpackage\\b", "->", "::", "\\bException\\b", "\\bError\\b", "\\bSystem\\.(?!arraycopy)",
        "\\bThread\\b", "\\bRandom\\b", "\\bObject\\b", "\\bMath\\.\\w+Exact", "\\.equals\\(", "\\bhashCode\\b",
        "\\btoString\\b", "\\bstatic\\s*\\{", "\\bvar\\b", "\\bnative\\b", "\\bvolatile\\b", "\\btransient\\b"};
    private static final int METHOD_LINES = 60;

    private static int wrong = 0;

    public static void main(String[] args) throws IOException {
        String root = System.getenv().getOrDefault("LENTAIR_ROOT", ".");
        String text = Files.readString(Path.of(root, "src", "main", "java", "LentAir.java"), StandardCharsets.UTF_8);
        String code = text.replaceAll("(?s)/\\*.*?\\*/", "").replaceAll("//[^\n]*", "");
        for (String ruledOut : RULED_OUT) {
            Matcher m = Pattern.compile(ruledOut).matcher(code);
            holds("there is no " + ruledOut, !m.find());
        }
        holds("all signs are 1 to 127", text.chars().allMatch(c -> c > 0 && c < 128));
        holds("only Arrays is imported", code.lines().filter(l -> l.startsWith("import")).toList()
            .equals(List.of("import java.util.Arrays;")));
        holds("no text is joined by +", !Pattern.compile("\"\\s*\\+|\\+\\s*\"").matcher(code).find());
        Matcher classes = Pattern.compile("\\b(class|record|enum|interface)\\s+\\w+").matcher(code);
        holds("there are at most twelve classes", classes.results().count() <= 12);
        int start = -1;
        List<String> lines = code.lines().toList();
        for (int i = 0; i < lines.size(); i++) {
            if (lines.get(i).matches(" {4,8}[a-zA-Z].*\\) \\{")) {
                start = i;
            } else if (lines.get(i).matches(" {4,8}\\}") && start >= 0) {
                holds("a method is short: " + lines.get(start).trim(), i - start <= METHOD_LINES);
                start = -1;
            }
        }
        text.lines().filter(line -> line.length() > 120).forEach(line -> holds("this line is short: " + line, false));
        System.out.println(wrong == 0 ? "the program keeps to its language" : wrong + " rules are broken");
        if (wrong != 0) {
            System.exit(1);
        }
    }

    private static void holds(String what, boolean is) {
        if (!is) {
            wrong++;
            System.out.println("it does not hold that " + what);
        }
    }
}
