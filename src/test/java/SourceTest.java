import java.io.IOException;
import java.nio.file.Files;
import java.nio.file.Path;
import java.util.List;

/** Rules of LANGUAGE.md that can be told from the text of the class alone; its path is the argument. */
public final class SourceTest {
    private static final Check CHECK = new Check("SourceTest");
    private static final String[] RULED_OUT = {"->", "::", "catch", "try ", "finally", "synchronized", "assert ", "lambda",
        "static {", "System.", "Thread.", "Exact(", "hashCode", "toString", "package ", "protected ", "while (true)", "for (;;)",
        "Random", "double", "float"};

    public static void main(String[] args) throws IOException {
        Path path = Path.of(args.length > 0 ? args[0] : "src/main/java/LinearSearch.java");
        List<String> lines = Files.readAllLines(path);
        for (int i = 0; i < lines.size(); i++) {
            String line = lines.get(i);
            String where = "line " + (i + 1);
            boolean isComment = line.strip().startsWith("*") || line.strip().startsWith("/");
            for (String out : RULED_OUT) {
                CHECK.same(where + " has " + out, !isComment && line.contains(out), false);
            }
            if (line.startsWith("import ")) {
                CHECK.same(where, line, "import java.util.Arrays;");
            }
            CHECK.same(where + " is short", line.length() <= 120, true);
            if (!isComment && line.matches("(    ){1,2}[a-zA-Z].*\\) (throws .*)?\\{")) {
                CHECK.same(where + " begins a short method", methodLength(lines, i) <= 60, true);
            }
        }
        CHECK.end();
    }

    private static int methodLength(List<String> lines, int begin) {
        String first = lines.get(begin);
        String end = first.substring(0, first.length() - first.stripLeading().length()) + "}";
        return lines.subList(begin, lines.size()).indexOf(end) + 1;
    }
}
