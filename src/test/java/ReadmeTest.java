import java.io.IOException;
import java.lang.reflect.Method;
import java.lang.reflect.Modifier;
import java.nio.file.Files;
import java.nio.file.Path;
import java.util.ArrayList;
import java.util.List;
import java.util.stream.Stream;

/** README.md says how to use the class and how to run its tests: its example is run here, line for line. */
public final class ReadmeTest {
    private static final Check CHECK = new Check("ReadmeTest");
    private static final Path TESTS = Path.of("src/test/java");

    public static void main(String[] args) throws IOException {
        List<String> readme = Files.readAllLines(Path.of("README.md"));
        example();
        exampleIsTheOneAbove(readme);
        String all = String.join("\n", readme);
        for (Method m : LinearSearch.class.getDeclaredMethods()) {
            if (Modifier.isPublic(m.getModifiers())) {
                CHECK.same("README.md tells of " + m.getName(), all.contains("`" + m.getName() + "("), true);
            }
        }
        CHECK.same("README.md tells of the constructor", all.contains("`new LinearSearch("), true);
        CHECK.same("README.md tells how to run the tests", readme.contains(".ci/run"), true);
        CHECK.same(".ci/run can be run", Files.isExecutable(Path.of(".ci/run")), true);
        try (Stream<Path> files = Files.list(TESTS)) {
            files.map(file -> file.getFileName().toString().replace(".java", "")).filter(name -> name.endsWith("Test"))
                .forEach(name -> CHECK.same("README.md tells of " + name, all.contains("`" + name + "`"), true));
        }
        CHECK.end();
    }

    private static void example() {
        LinearSearch x = new LinearSearch(5);          // at most 3 + 5 states of the automaton are kept
        for (char c : "a(b|c)*?d".toCharArray()) {
            x.type(c);                                 // false when there are 24 characters
        }
        int size = x.compile();                        // 11 instructions; IllegalArgumentException if it is no pattern
        for (char c : "habcbd".toCharArray()) {
            x.feed(c);                                 // false when it is not a .. h, or there are 20 letters
        }
        int begin = x.search(4);                       // 1: where the match begins; -1 if there is none
        int end = x.slot(0, true);                     // 6: where it ends
        int group = x.slot(1, false);                  // 4: where group 1 begins
        int matcher = x.matcher();                     // 1: the planned matcher was MARKS
        int work = x.work();                           // 29 marks were set
        int count = x.breaks();                        // 1: how many matches there are behind one another
        CHECK.same("size", size, 11);
        CHECK.same("begin", begin, 1);
        CHECK.same("end", end, 6);
        CHECK.same("group", group, 4);
        CHECK.same("matcher", matcher, 1);
        CHECK.same("work", work, 29);
        CHECK.same("count", count, 1);
    }

    /** What stands in README.md between ```java and ``` stands in this file, too, in one piece. */
    private static void exampleIsTheOneAbove(List<String> readme) throws IOException {
        int begin = readme.indexOf("```java") + 1;
        int end = begin + readme.subList(begin, readme.size()).indexOf("```");
        CHECK.same("README.md has an example", begin > 0 && end > begin, true);
        List<String> here = new ArrayList<>();
        for (String line : Files.readAllLines(TESTS.resolve("ReadmeTest.java"))) {
            here.add(line.strip());
        }
        List<String> there = new ArrayList<>();
        for (String line : readme.subList(begin, end)) {
            there.add(line.strip());
        }
        CHECK.same("README.md's example is run", String.join("\n", here).contains(String.join("\n", there)), true);
    }
}
