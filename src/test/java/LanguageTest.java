import java.nio.file.Files;
import java.nio.file.Path;
import java.util.List;
import java.util.regex.Matcher;
import java.util.regex.Pattern;

/** What LANGUAGE.md rules out and a look at the text can find. */
public final class LanguageTest {
    private static final Due due = new Due();
    private static final List<String> WORDS = List.of("throw", "throws", "try", "catch", "finally", "synchronized",
            "assert", "volatile", "native", "package", "protected", "Object", "Thread", "Random", "Exception",
            "getClass", "hashCode", "equals", "toString", "instanceof", "Exact");
    private static final Pattern METHOD = Pattern.compile("^ {4}(?: {4})?\\S[^;=]*\\) \\{$");

    public static void main(String[] args) throws Exception {
        due.part("language");
        String text = Files.readString(Path.of("src/main/java/TwinOrders.java"));
        due.isTrue("signs 0 to 127 alone", text.chars().allMatch(c -> c < 128));
        String code = text.replaceAll("(?s)/\\*.*?\\*/", "").replaceAll("//[^\n]*", "");
        for (String word : WORDS) {
            due.isTrue("no " + word, !Pattern.compile("\\b" + word + "\\b").matcher(code).find());
        }
        due.isTrue("no name that ends in Exact", !Pattern.compile("Exact\\b").matcher(code).find());
        due.isTrue("no lambda", !code.contains("->"));
        due.isTrue("no method reference", !code.contains("::"));
        due.isTrue("no text", !code.contains("\""));
        due.isTrue("no loop without a counter", !Pattern.compile("\\b(while|do)\\b").matcher(code).find());
        due.isTrue("no static block", !Pattern.compile("static\\s*\\{").matcher(code).find());
        due.isTrue("one public class", Pattern.compile("public [a-z ]*class").matcher(code).results().count() == 1);
        imports(code);
        library(code);
        lengths(text);
        due.end("LanguageTest");
    }

    private static void imports(String code) {
        Matcher m = Pattern.compile("import ([^;]*);").matcher(code);
        while (m.find()) {
            due.isTrue("import " + m.group(1), m.group(1).equals("java.util.Arrays"));
        }
    }

    private static void library(String code) {
        List<String> known = List.of("System.arraycopy", "Arrays.fill", "Math.min", "Math.max", "Math.floorMod");
        Matcher m = Pattern.compile("\\b(System|Arrays|Math|Integer|Long|String|StringBuilder)\\.\\w+").matcher(code);
        while (m.find()) {
            due.isTrue(m.group() + " is of the list", known.contains(m.group()));
        }
        // An array of booleans is copied by hand: the list speaks of numbers.
        due.isTrue("no booleans copied by the library", !code.contains("arraycopy(other.pinned"));
    }

    private static void lengths(String text) {
        List<String> lines = text.lines().toList();
        for (int i = 0; i < lines.size(); i++) {
            due.isTrue("line " + (i + 1) + " is no longer than 120", lines.get(i).length() <= 120);
            if (METHOD.matcher(lines.get(i)).matches() && !lines.get(i).contains(" class ")) {
                String end = lines.get(i).replaceAll("\\S.*", "") + "}";
                int j = i;
                while (!lines.get(j).equals(end)) {
                    j++;
                }
                due.isTrue("the method at line " + (i + 1) + " is no longer than 60 lines", j - i < 60);
            }
        }
    }
}
