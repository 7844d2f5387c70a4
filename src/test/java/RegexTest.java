import java.util.regex.Matcher;
import java.util.regex.Pattern;

/**
 * Matches and breaks are those of java.util.regex, but for loops round what may be empty, which it treats otherwise, and
 * for the groups in loops round groups, which it does not always put back when it goes back.
 */
public final class RegexTest {
    private static final Check CHECK = new Check("RegexTest");

    public static void main(String[] args) {
        Dice dice = new Dice(4711);
        for (int i = 0; i < 8000; i++) {
            int letters = 1 + dice.below(3);
            String pattern = dice.pattern(letters, false);
            LinearSearch x = Check.compiled(dice.below(16), pattern);
            for (int t = 0; t < 4; t++) {
                String text = dice.text(letters);
                Check.feedAll(x, text);
                compare(x, pattern, text);
            }
        }
        CHECK.end();
    }

    private static void compare(LinearSearch x, String pattern, String text) {
        boolean allGroups = !pattern.contains(")*") && !pattern.contains(")+");
        String want = shown(slots(Pattern.compile(pattern).matcher(text)), allGroups);
        for (int matcher = 0; matcher <= 4; matcher++) {
            if (matcher != 3 || x.simple()) {
                x.search(matcher);
                CHECK.same(pattern + " in " + text + " by " + matcher, shown(Check.slots(x), allGroups), want);
            }
        }
        CHECK.same("breaks of " + pattern + " in " + text, x.breaks(), breaks(Pattern.compile(pattern).matcher(text)));
    }

    private static String shown(String slots, boolean allGroups) {
        return allGroups ? slots : slots.substring(0, slots.indexOf(' '));
    }

    private static String slots(Matcher m) {
        StringBuilder b = new StringBuilder();
        boolean found = m.find();
        for (int g = 0; g <= 3; g++) {
            boolean noted = found && g <= m.groupCount() && m.start(g) >= 0;
            b.append(g == 0 ? "" : " ").append(noted ? m.start(g) + "-" + m.end(g) : "-");
        }
        return b.toString();
    }

    private static int breaks(Matcher m) {
        int count = 0;
        int before = -1;
        while (m.find()) {
            count += m.start() == m.end() && m.start() == before ? 0 : 1;
            before = m.end();
        }
        return count;
    }
}
