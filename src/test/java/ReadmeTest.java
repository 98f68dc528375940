import java.io.IOException;
import java.lang.reflect.InvocationTargetException;
import java.lang.reflect.Method;
import java.nio.file.Files;
import java.nio.file.Path;
import java.util.ArrayList;
import java.util.List;
import java.util.TreeSet;
import java.util.regex.Matcher;
import java.util.regex.Pattern;
import java.util.stream.Stream;

/** What README.md says is so: its example is played line by line, its list names the tests; -Droot tells where it is. */
final class ReadmeTest {
    private static final Check CHECK = new Check();
    private static final Pattern FED = Pattern.compile("feed\\(soap, \"([^\"]*)\"\\);");
    private static final Pattern ASKED = Pattern.compile("soap\\.(\\w+)\\(([^)]*)\\);\\s+// (-?\\d+|true|false|\\w+Exception)\\b.*");
    private static final Pattern NAMED = Pattern.compile("`(\\w+Test)`");

    public static void main(String[] args) throws IOException, IllegalAccessException {
        Path root = Path.of(System.getProperty("root", "."));
        List<String> readme = Files.readAllLines(root.resolve("README.md"));
        playExample(blockWith(readme, "SoapTreaty soap = new SoapTreaty();"));
        helperStands(blockWith(readme, "static int feed(SoapTreaty x, String text) {"), root);
        testsNamed(readme, root);
        CHECK.end("ReadmeTest");
    }

    private static List<String> blockWith(List<String> readme, String line) {
        int at = readme.indexOf(line);
        CHECK.due("README has a block with " + line, at >= 0, true);
        int from = at;
        while (from > 0 && !readme.get(from - 1).startsWith("```")) {
            from--;
        }
        int to = Math.max(at, 0);
        while (to < readme.size() && !readme.get(to).startsWith("```")) {
            to++;
        }
        return readme.subList(Math.max(from, 0), to);
    }

    private static void playExample(List<String> block) throws IllegalAccessException {
        SoapTreaty soap = null;
        for (String line : block) {
            Matcher fed = FED.matcher(line);
            Matcher asked = ASKED.matcher(line);
            if (line.equals("SoapTreaty soap = new SoapTreaty();")) {
                soap = new SoapTreaty();
            } else if (soap != null && fed.matches()) {
                Check.feed(soap, fed.group(1));
            } else if (soap != null && asked.matches()) {
                String got = answer(soap, asked.group(1), asked.group(2));
                CHECK.due("README: " + line + " answered " + got, got.equals(asked.group(3)), true);
            } else {
                CHECK.due("README: what is " + line, line.isEmpty() || line.startsWith("//"), true);
            }
        }
    }

    private static String answer(SoapTreaty soap, String name, String arguments) throws IllegalAccessException {
        String[] written = arguments.isEmpty() ? new String[0] : arguments.split(", ");
        for (Method method : SoapTreaty.class.getDeclaredMethods()) {
            if (method.getName().equals(name) && method.getParameterCount() == written.length) {
                Object[] given = new Object[written.length];
                for (int i = 0; i < given.length; i++) {
                    given[i] = method.getParameterTypes()[i] == boolean.class
                        ? (Object) Boolean.valueOf(written[i]) : (Object) Integer.valueOf(written[i]);
                }
                try {
                    return String.valueOf(method.invoke(soap, given));
                } catch (InvocationTargetException e) {
                    return e.getCause().getClass().getSimpleName();
                }
            }
        }
        return "nothing: there is no such call";
    }

    /** The wrapping that README shows is the one that the tests use, so that it is known to work. */
    private static void helperStands(List<String> block, Path root) throws IOException {
        List<String> helper = new ArrayList<>();
        for (String line : Files.readAllLines(root.resolve("src/test/java/Check.java"))) {
            helper.add(line.strip());
        }
        for (String line : block) {
            CHECK.due("README: Check.java has " + line, helper.contains(line.strip()), true);
        }
    }

    private static void testsNamed(List<String> readme, Path root) throws IOException {
        TreeSet<String> named = new TreeSet<>();
        for (String line : readme) {
            Matcher matcher = NAMED.matcher(line);
            while (matcher.find()) {
                named.add(matcher.group(1));
            }
        }
        TreeSet<String> standing = new TreeSet<>();
        try (Stream<Path> files = Files.list(root.resolve("src/test/java"))) {
            files.map(file -> file.getFileName().toString()).filter(name -> name.endsWith("Test.java"))
                .forEach(name -> standing.add(name.replace(".java", "")));
        }
        CHECK.due("README names " + named + ", there are " + standing, named.equals(standing), true);
    }
}
