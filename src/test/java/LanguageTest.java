import java.io.IOException;
import java.nio.charset.StandardCharsets;
import java.nio.file.Files;
import java.nio.file.Path;
import java.util.List;
import java.util.regex.Matcher;
import java.util.regex.Pattern;

/** What of LANGUAGE.md can be seen in the text of the source; it is run in the project's folder. */
public final class LanguageTest {
    private static final Path SOURCE = Path.of("src/main/java/LessonSpiral.java");
    private static final int LONGEST_METHOD = 60;
    private static final int MOST_PARAMETERS = 7;

    private static final String[] REFUSED = {
        "\\bthrow\\b", "\\bthrows\\b", "\\btry\\b", "\\bcatch\\b", "\\bfinally\\b", "\\bsynchronized\\b",
        "\\bassert\\b", "\\bpackage\\b", "\\bimport\\b", "\\bprotected\\b", "->", "::", "\\bstatic \\{",
        "\\bequals\\b", "\\bhashCode\\b", "\\btoString\\b", "Exact\\b", "\\bvolatile\\b", "\\bnative\\b",
        "\\bRandom\\b", "\\bThread\\b", "currentTimeMillis", "nanoTime", "\\bObject\\b", "\\bwhile \\(true\\)",
    };

    private static int wrong = 0;

    private static void refuse(int line, String why) {
        wrong++;
        System.out.println(SOURCE + ":" + line + ": " + why);
    }

    private static String withoutComments(String text) {
        Matcher m = Pattern.compile("/\\*.*?\\*/|//[^\n]*", Pattern.DOTALL).matcher(text);
        return m.replaceAll(c -> c.group().replaceAll("[^\n]", ""));
    }

    private static void words(List<String> lines) {
        for (int i = 0; i < lines.size(); i++) {
            for (String word : REFUSED) {
                if (Pattern.compile(word).matcher(lines.get(i)).find()) {
                    refuse(i + 1, word);
                }
            }
            if (lines.get(i).chars().anyMatch(c -> c > 126)) {
                refuse(i + 1, "a sign above 126");
            }
        }
    }

    /** A method begins with a line that ends in ") {" and is no statement, and ends at its own depth. */
    private static void methods(List<String> lines) {
        Pattern head = Pattern.compile("^( +)(?!if|for|while|switch|else|return|\\})[A-Za-z].*\\((.*)\\) \\{$");
        for (int i = 0; i < lines.size(); i++) {
            Matcher m = head.matcher(lines.get(i));
            if (!m.matches()) {
                continue;
            }
            int end = i;
            while (end < lines.size() && !lines.get(end).equals(m.group(1) + "}")) {
                end++;
            }
            if (end - i + 1 > LONGEST_METHOD) {
                refuse(i + 1, "a method of " + (end - i + 1) + " lines");
            }
            if (m.group(2).split(",").length > MOST_PARAMETERS) {
                refuse(i + 1, "too many parameters");
            }
        }
    }

    public static void main(String[] args) throws IOException {
        String text = Files.readString(SOURCE, StandardCharsets.UTF_8);
        List<String> lines = List.of(withoutComments(text).split("\n"));
        words(lines);
        methods(lines);
        System.out.println(wrong == 0 ? "the source keeps to the language" : wrong + " lines do not keep to it");
        if (wrong != 0) {
            System.exit(1);
        }
    }
}
