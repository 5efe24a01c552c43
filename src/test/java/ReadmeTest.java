import java.lang.reflect.Method;
import java.nio.file.Files;
import java.nio.file.Path;
import java.util.Arrays;
import java.util.Map;
import java.util.Set;
import java.util.TreeMap;
import java.util.TreeSet;
import java.util.regex.Matcher;
import java.util.regex.Pattern;
import java.util.stream.Collectors;
import java.util.stream.Stream;

/** README.md tells of each promise's call as the document has it, and its examples answer as they say. */
public final class ReadmeTest {
    private static final Due due = new Due();
    private static final Pattern PROMISED = Pattern.compile("(?m)^## Promise (\\d+): .*\\R\\R`int ([^`]*)`");
    private static final Pattern ROW = Pattern.compile("(?m)^\\| (\\d+) \\| `([^`]*)` \\| \\S.* \\|$");
    private static final Pattern EXAMPLES = Pattern.compile("(?ms)^```java\\R(.*?)^```$");
    private static final Pattern CALL = Pattern.compile("x\\.(\\w+)\\((.*)\\); +// (-?\\d+)(:.*)?");

    public static void main(String[] args) throws Exception {
        String page = Files.readString(Path.of("README.md"));
        due.part("rows");
        Map<Integer, String> promised = pairs(PROMISED, Files.readString(Path.of("../shared/DOC.md")));
        due.is("promises with a call", promised.size(), 42);
        due.isTrue("README.md has a row for each call of the document, and it alone", pairs(ROW, page).equals(promised));
        due.is("rows", (int) ROW.matcher(page).results().count(), promised.size());
        examples(page);
        tests(page);
        due.end("ReadmeTest");
    }

    private static Map<Integer, String> pairs(Pattern pattern, String text) {
        Map<Integer, String> found = new TreeMap<>();
        Matcher m = pattern.matcher(text);
        while (m.find()) {
            found.put(Integer.parseInt(m.group(1)), m.group(2));
        }
        return found;
    }

    private static void examples(String page) throws Exception {
        due.part("examples");
        Set<String> shown = new TreeSet<>();
        Matcher block = EXAMPLES.matcher(page);
        while (block.find()) {
            TwinOrders x = null;
            for (String line : block.group(1).lines().toList()) {
                if (line.equals("TwinOrders x = new TwinOrders();")) {
                    x = new TwinOrders();
                    continue;
                }
                Matcher call = CALL.matcher(line);
                if (x == null || !call.matches()) {
                    due.isTrue("'" + line + "' is a call with its answer", false);
                    continue;
                }
                shown.add(call.group(1));
                due.is(line, answer(x, call.group(1), call.group(2)), Integer.parseInt(call.group(3)));
            }
        }
        for (Method m : TwinOrders.class.getDeclaredMethods()) {
            if (java.lang.reflect.Modifier.isPublic(m.getModifiers())) {
                due.isTrue(m.getName() + " has an example", shown.contains(m.getName()));
            }
        }
    }

    private static int answer(TwinOrders x, String name, String arguments) throws Exception {
        Method called = Arrays.stream(TwinOrders.class.getMethods()).filter(m -> m.getName().equals(name))
                .findFirst().orElseThrow();
        Object[] told = Arrays.stream(arguments.split(", ")).map(ReadmeTest::value).toArray();
        return (Integer) called.invoke(x, told);
    }

    private static Object value(String text) {
        boolean flag = text.equals("true") || text.equals("false");
        return flag ? (Object) Boolean.valueOf(text) : (Object) Integer.valueOf(text);
    }

    private static void tests(String page) throws Exception {
        due.part("tests");
        try (Stream<Path> files = Files.list(Path.of("src/test/java"))) {
            Set<String> names = files.map(f -> f.getFileName().toString()).filter(f -> f.endsWith("Test.java"))
                    .map(f -> f.substring(0, f.length() - ".java".length())).collect(Collectors.toCollection(TreeSet::new));
            for (String name : names) {
                due.isTrue(name + " is told of", page.contains("`" + name + "`"));
            }
        }
    }
}
