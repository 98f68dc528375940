import java.io.IOException;
import java.nio.file.Files;
import java.nio.file.Path;
import java.util.List;
import java.util.regex.Matcher;
import java.util.regex.Pattern;

/** What can be seen of LANGUAGE.md's rules in the source's lines; -Droot tells where it is. */
final class LanguageTest {
    private static final Check CHECK = new Check();
    private static final String[] FORBIDDEN = {
        "->", "::", "\\bsynchronized\\b", "\\bassert\\b", "\\bfinally\\b", "\\bcatch\\b", "\\btry\\b", "Exact\\(", "\\bSystem\\.(?!arraycopy)",
        "\\bThread\\b", "\\bRandom\\b", "\\bObject\\b", "\\bprotected\\b", "\\bMath\\.(?!max|min)", "\\bString\\.", "\" \\+ ", " \\+ \"",
        "\\bhashCode\\b", "\\btoString\\b", "\\bstatic \\{", "\\bvar\\b", "\\bdouble\\b", "\\bfloat\\b", "^package\\b",
    };
    private static final int LONGEST_METHOD = 60;
    private static final int MOST_FIELDS = 20;

    public static void main(String[] args) throws IOException {
        List<String> lines = Files.readAllLines(Path.of(System.getProperty("root", "."), "src/main/java/SoapTreaty.java"));
        forbidden(lines);
        imports(lines);
        signs(lines);
        methods(lines);
        fields(lines);
        CHECK.end("LanguageTest");
    }

    private static String code(String line) {
        String bare = line.strip();
        return bare.startsWith("/**") || bare.startsWith("*") || bare.startsWith("//") ? "" : line;
    }

    private static void forbidden(List<String> lines) {
        for (String pattern : FORBIDDEN) {
            Pattern bad = Pattern.compile(pattern);
            for (int i = 0; i < lines.size(); i++) {
                CHECK.due("rules 2 to 6, 10: line " + (i + 1) + " has " + pattern, bad.matcher(code(lines.get(i))).find(), false);
            }
        }
    }

    private static void imports(List<String> lines) {
        for (String line : lines) {
            if (line.startsWith("import")) {
                CHECK.due("rule 4: " + line, line.equals("import java.util.NoSuchElementException;"), true);
            }
            Matcher thrown = Pattern.compile("throw new (\\w+)\\(").matcher(code(line));
            if (thrown.find()) {
                CHECK.due("rule 6, P30: " + line, thrown.group(1).equals("NoSuchElementException"), true);
            }
        }
    }

    private static void signs(List<String> lines) {
        for (int i = 0; i < lines.size(); i++) {
            CHECK.due("rule 4: signs of line " + (i + 1), lines.get(i).chars().allMatch(sign -> sign >= 32 && sign < 127), true);
        }
    }

    /** A method begins where a line ends with ) { and says what it gives; it ends at the same depth. */
    private static void methods(List<String> lines) {
        Pattern head = Pattern.compile("^( +)(public |private |static )*(\\w+(\\[\\])? )?\\w+\\(.*\\)( throws \\w+)? \\{$");
        Pattern inner = Pattern.compile("^ +(if|for|while|switch|} else if)\\b.*");
        for (int i = 0; i < lines.size(); i++) {
            Matcher m = head.matcher(lines.get(i));
            if (m.matches() && !inner.matcher(lines.get(i)).matches()) {
                int end = i;
                while (!lines.get(end).equals(m.group(1) + "}")) {
                    end++;
                }
                CHECK.due("rule 11: lines of " + lines.get(i).strip(), end - i + 1 <= LONGEST_METHOD, true);
            }
        }
    }

    private static void fields(List<String> lines) {
        Pattern field = Pattern.compile("^ +(private )?(final )?[\\w\\[\\]]+ \\w+( = .*)?;$");
        Pattern type = Pattern.compile("^ *(public |private )?(static )?final class (\\w+).*");
        String name = "";
        int depth = 0;
        int fields = 0;
        for (String line : lines) {
            Matcher m = type.matcher(line);
            if (m.matches()) {
                CHECK.due("rule 11: few fields in " + name, fields <= MOST_FIELDS, true);
                name = m.group(3);
                depth = line.length() - line.stripLeading().length() + 4;
                fields = 0;
            }
            boolean direct = line.length() - line.stripLeading().length() == depth;
            if (direct && field.matcher(line).matches() && !line.contains(" static ")) {
                fields++;
            }
        }
        CHECK.due("rule 11: few fields in " + name, fields <= MOST_FIELDS, true);
    }
}
