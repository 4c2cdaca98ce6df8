import java.nio.file.Files;
import java.nio.file.Path;
import java.util.regex.Matcher;
import java.util.regex.Pattern;

/** What a look at the source's text can find: what ../shared/LANGUAGE.md rules out, and what the document says of it. */
final class LanguageTest {
    private static final String[] OUT = {"\\bimport\\b", "\\bpackage\\b", "->", "::", "\\bcatch\\b", "\\btry\\s*\\{",
        "\\bfinally\\b", "\\bsynchronized\\b", "\\bassert\\b", "\\bprotected\\b", "\\bRandom\\b", "\\bSystem\\.(?!arraycopy)",
        "\\bThread\\b", "\\bObject\\b", "\\bwhile\\s*\\(\\s*true", "for\\s*\\(;;", "Exact\\b", "\\[\\]\\[\\]\\[\\]",
        "\\bstatic\\s*\\{", "\\bstatic\\s+(?!final|int \\w+\\(|boolean \\w+\\(|void \\w+\\(|long \\w+\\()\\w"};

    /** What the document says that the interface says ahead of the calls, and these calls. */
    private static final String FACE = "---- jobs, addJob, setTime, removeLast, jobs, time, "
        + "---- the shortest plan, shortest, shortestByTrying, shortestMachine, "
        + "---- the bound and the division, bound, numerator, denominator, isDivided, leastNumerator, leastDenominator, "
        + "---- the rounded plan, roundedMachine, roundedLength, excess, "
        + "---- the own plan, assign, machine, load, length, improve, takeRounded";

    public static void main(String[] args) throws java.io.IOException {
        Due due = new Due("LanguageTest");
        String text = Files.readString(Path.of("src/main/java/UnlikeUnion.java"));
        String code = text.replaceAll("(?s)/\\*.*?\\*/", "").replaceAll("//[^\n]*", "");
        for (String out : OUT) {
            due.same("rule: " + out, Pattern.compile(out).matcher(code).find(), false);
        }
        due.same("signs 1 to 127", text.chars().allMatch(sign -> sign > 0 && sign < 128), true);
        methodsStayShort(due, code);
        due.same("what is said ahead of the calls", face(text), FACE);
        due.close();
    }

    private static String face(String text) {
        StringBuilder found = new StringBuilder();
        Matcher part = Pattern.compile("// (---- [\\w ]+)\n|public (?:int|float|boolean) (\\w+)\\(").matcher(text);
        while (part.find()) {
            found.append(found.length() > 0 ? ", " : "").append(part.group(1) != null ? part.group(1) : part.group(2));
        }
        return found.toString();
    }

    /** A method starts and ends at a brace with the same margin. */
    private static void methodsStayShort(Due due, String code) {
        String[] lines = code.split("\n");
        for (int line = 0; line < lines.length; line++) {
            if (lines[line].matches("\\s+(public |private |static |final )*[\\w\\[\\]]+ \\w+\\(.*\\{")
                && !lines[line].matches("\\s+(else|return|new).*")) {
                String margin = lines[line].replaceAll("\\S.*", "");
                int end = line;
                while (end < lines.length && !lines[end].equals(margin + "}")) {
                    end++;
                }
                due.same("the method at " + lines[line].trim() + " has at most 60 lines", end - line < 60, true);
            }
        }
    }
}
