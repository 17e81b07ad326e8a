import java.lang.reflect.Method;
import java.lang.reflect.Modifier;
import java.nio.file.Files;
import java.nio.file.Path;
import java.util.List;
import java.util.Map;
import java.util.regex.Matcher;
import java.util.regex.Pattern;
import java.util.stream.Collectors;
import java.util.stream.Stream;

/** README.md: what its examples answer, and that it names each call of the face, each class inside and each test. */
public final class ReadmeTest {
    private static final Check CHECK = new Check("ReadmeTest");
    private static final Pattern EXAMPLE = Pattern.compile("(?s)```java\n(.*?)```");
    private static final Pattern TEXT = Pattern.compile("for \\(char sign : \"(.*)\"\\.toCharArray\\(\\)\\) \\{");
    private static final Pattern CALL = Pattern.compile("(\\w+\\.\\w+\\()?x\\.(\\w+\\([^()]*\\))\\)?; +// ([-.\\d]+)(:.*)?");
    private static final Map<String, String> READ_AS =
        Map.of("Float.intBitsToFloat(", "float ", "Double.longBitsToDouble(", "double ");
    private static final List<String> LOOP_LINES = List.of("", "OuterIdeals x = new OuterIdeals();", "x.feed(sign);", "}");

    public static void main(String[] args) throws Exception {
        String readme = Files.readString(Path.of("README.md"));
        Matcher example = EXAMPLE.matcher(readme);
        int examples = 0;
        while (example.find()) {
            play(example.group(1));
            examples++;
        }
        CHECK.due("examples", examples, 2);
        namesAll(readme);
        CHECK.end();
    }

    private static void play(String example) {
        Rows rows = new Rows();
        for (String line : example.split("\n")) {
            Matcher text = TEXT.matcher(line.strip());
            Matcher call = CALL.matcher(line.strip());
            if (text.matches()) {
                rows.play("feed \"" + text.group(1) + "\"");
            } else if (call.matches()) {
                String sort = call.group(1) == null ? "" : READ_AS.getOrDefault(call.group(1), "?");
                rows.play(call.group(2) + " = " + sort + call.group(3));
            } else {
                CHECK.holds("a line that the test can read: " + line, LOOP_LINES.contains(line.strip()));
            }
        }
        CHECK.holds("examples: " + rows.wrong(), rows.wrong().isEmpty());
    }

    private static void namesAll(String readme) throws Exception {
        for (Method method : OuterIdeals.class.getDeclaredMethods()) {
            if (Modifier.isPublic(method.getModifiers())) {
                CHECK.holds("the call " + method.getName(), readme.contains("`" + method.getName() + "("));
            }
        }
        for (Class<?> inside : OuterIdeals.class.getDeclaredClasses()) {
            CHECK.holds("the class " + inside.getSimpleName(), readme.contains("| `" + inside.getSimpleName() + "` |"));
        }
        for (String test : tests()) {
            CHECK.holds("the test " + test, readme.contains("| `" + test + "` |"));
        }
    }

    private static List<String> tests() throws Exception {
        try (Stream<Path> files = Files.list(Path.of("src/test/java"))) {
            return files.map(file -> file.getFileName().toString()).filter(name -> name.endsWith("Test.java"))
                .map(name -> name.substring(0, name.length() - ".java".length())).collect(Collectors.toList());
        }
    }
}
