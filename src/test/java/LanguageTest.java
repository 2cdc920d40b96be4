import java.nio.charset.StandardCharsets;
import java.nio.file.Files;
import java.nio.file.Path;
import java.util.List;
import java.util.regex.Matcher;
import java.util.regex.Pattern;

/** Those rules of ../shared/LANGUAGE.md that the source's own words show. */
public final class LanguageTest {
    private static final Path SOURCE = Path.of("src/main/java/StyleTree.java");
    private static final String[] FORBIDDEN = {
        "\\b(throw|throws|try|catch|finally|synchronized|assert|import|package|instanceof)\\b",
        "\\b(hashCode|toString|equals)\\b", "->", "::", "static\\s*\\{", "\\w+Exact\\b",
        "\\b(System\\.(?!arraycopy)|Thread|Random|Object|Class|Runnable)\\b", "\\b(double|float)\\b",
        "while\\s*\\(\\s*true", "for\\s*\\(\\s*;\\s*;"
    };
    private static final int MOST_LINES = 60;
    private static final int MOST_CLASSES = 12;
    private static final Checker check = new Checker();

    public static void main(String[] args) throws Exception {
        String source = Files.readString(SOURCE, StandardCharsets.ISO_8859_1);
        String code = source.replaceAll("(?s)/\\*.*?\\*/", "").replaceAll("//[^\n]*", "");
        for (String words : FORBIDDEN) {
            Matcher m = Pattern.compile(words).matcher(code);
            check.due("words like " + words, 0, m.results().count());
        }
        check.due("letters beyond 127", 0, source.chars().filter(c -> c > 127).count());
        long classes = Pattern.compile("\\bclass\\b").matcher(code).results().count();
        check.due("too many classes", 0, classes > MOST_CLASSES ? classes : 0);
        methodsAreShort(source.lines().toList());
        noArrayIsMadeByACall(code);
        check.end();
    }

    private static void methodsAreShort(List<String> lines) {
        Pattern head = Pattern.compile("^( {4}| {8})(?!.*\\bclass\\b)[a-zA-Z].*\\(.*\\) \\{$");
        for (int i = 0; i < lines.size(); i++) {
            Matcher m = head.matcher(lines.get(i));
            if (m.find()) {
                int end = i;
                while (!lines.get(end).equals(m.group(1) + "}")) {
                    end++;
                }
                check.due(lines.get(i) + " is too long", 0, end - i > MOST_LINES ? end - i : 0);
            }
        }
    }

    /** Objects are made by constructors and field initialisers alone, so no call fills the room. */
    private static void noArrayIsMadeByACall(String code) {
        for (String line : code.split("\n")) {
            boolean field = line.matches(".*\\b(private|final)\\b.*= new .*;");
            boolean constructor = line.matches("\\s*(images|rows)\\[\\w\\] = new \\w+\\(\\);");
            check.due("makes an object: " + line.trim(), 0, line.contains("new ") && !field && !constructor ? 1 : 0);
        }
    }
}
