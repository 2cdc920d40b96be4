import java.net.URL;
import java.net.URLClassLoader;
import java.nio.file.Files;
import java.nio.file.Path;
import java.util.ArrayList;
import java.util.HashSet;
import java.util.List;
import java.util.Map;
import java.util.Set;
import java.util.regex.Matcher;
import java.util.regex.Pattern;
import java.util.stream.Stream;
import javax.tools.ToolProvider;

/**
 * README.md, tried: its Java is compiled and run as it stands there, each call with the answer that
 * its comment tells; its texts are read; it shows every call of the face and names every test.
 */
public final class ReadmeTest {
    private static final Checker check = new Checker();
    private static final Pattern EXAMPLE = Pattern.compile("((?:tree\\.(\\w+)|tell)\\(.*\\)); +// (-?\\d+)(?:: .+)?");
    private static final Pattern TEXT_ROW = Pattern.compile("\\| `([^`]*)` \\| (-?\\d+) \\| .+ \\|");
    private static final String MEMBERS = "static ";

    public static void main(String[] args) throws Exception {
        List<String> lines = Files.readAllLines(Path.of("README.md"));
        Set<String> shown = examples(lines);
        for (String name : FaceTest.names()) {
            check.due(name + " is shown with an answer", 1, shown.contains(name) ? 1 : 0);
        }
        texts(lines);
        tests(lines);
        check.end();
    }

    private static List<List<String>> javaBlocks(List<String> lines) {
        List<List<String>> blocks = new ArrayList<>();
        boolean inside = false;
        for (String line : lines) {
            if (line.startsWith("```")) {
                inside = line.equals("```java");
                if (inside) {
                    blocks.add(new ArrayList<>());
                }
            } else if (inside) {
                blocks.get(blocks.size() - 1).add(line);
            }
        }
        return blocks;
    }

    /** Runs all Java of the page as one method, and answers which calls it shows with an answer. */
    private static Set<String> examples(List<String> lines) throws Exception {
        Set<String> shown = new HashSet<>();
        StringBuilder members = new StringBuilder();
        StringBuilder body = new StringBuilder();
        for (List<String> block : javaBlocks(lines)) {
            StringBuilder part = block.get(0).startsWith(MEMBERS) ? members : body;
            for (String line : block) {
                Matcher m = EXAMPLE.matcher(line);
                boolean example = m.matches();
                check.due("not in the form of an example: " + line, 0, line.contains("//") && !example ? 1 : 0);
                if (example) {
                    shown.add(String.valueOf(m.group(2)));
                    part.append("answers.add(java.util.Map.entry(\"").append(m.group(1).replace("\"", "\\\""));
                    part.append("\", new int[] {").append(m.group(3)).append(", ").append(m.group(1)).append("}));\n");
                } else {
                    part.append(line).append('\n');
                }
            }
        }
        run("import java.util.*;\npublic final class Examples {\n" + members
            + "public static void collect(List<Map.Entry<String, int[]>> answers) {\n" + body + "}\n}\n");
        return shown;
    }

    private static void run(String source) throws Exception {
        Path out = Files.createTempDirectory("readme");
        Path file = Files.writeString(out.resolve("Examples.java"), source);
        String classes = System.getProperty("java.class.path");
        int failed = ToolProvider.getSystemJavaCompiler().run(
            null, null, null, "-cp", classes, "-d", out.toString(), file.toString());
        check.due("the page's Java compiles", 0, failed);
        if (failed == 0) {
            List<Map.Entry<String, int[]>> answers = new ArrayList<>();
            try (URLClassLoader loader = new URLClassLoader(new URL[] {out.toUri().toURL()})) {
                loader.loadClass("Examples").getMethod("collect", List.class).invoke(null, answers);
            }
            for (Map.Entry<String, int[]> answer : answers) {
                check.due(answer.getKey(), answer.getValue()[0], answer.getValue()[1]);
            }
            check.due("there are examples", 1, answers.isEmpty() ? 0 : 1);
        }
        for (String left : new String[] {"Examples.java", "Examples.class", ""}) {
            Files.deleteIfExists(out.resolve(left));
        }
    }

    private static void texts(List<String> lines) {
        int found = 0;
        for (String line : lines) {
            Matcher m = TEXT_ROW.matcher(line);
            if (m.matches()) {
                found++;
                int due = Integer.parseInt(m.group(2));
                check.due("[" + m.group(1) + "]", due, Checker.read(new StyleTree(), m.group(1)));
            }
            check.due("not in the form of a text: " + line, 0, line.startsWith("| `") && !m.matches() ? 1 : 0);
        }
        check.due("there are texts", 1, found > 0 ? 1 : 0);
    }

    private static void tests(List<String> lines) throws Exception {
        List<String> names = new ArrayList<>();
        try (Stream<Path> files = Files.list(Path.of("src/test/java"))) {
            files.map(f -> f.getFileName().toString()).filter(f -> f.endsWith("Test.java"))
                .forEach(f -> names.add(f.replace(".java", "")));
        }
        for (String name : names) {
            boolean named = lines.stream().anyMatch(l -> l.matches("\\| (\\w+, )?" + name + "(, \\w+)? \\|.*"));
            check.due(name + " is named", 1, named ? 1 : 0);
        }
    }
}
