import java.io.ByteArrayOutputStream;
import java.io.IOException;
import java.io.InputStream;
import java.io.OutputStream;
import java.net.URI;
import java.nio.file.Files;
import java.nio.file.Path;
import java.util.ArrayList;
import java.util.HashMap;
import java.util.List;
import java.util.Map;
import javax.tools.FileObject;
import javax.tools.ForwardingJavaFileManager;
import javax.tools.JavaCompiler;
import javax.tools.JavaFileManager;
import javax.tools.JavaFileObject;
import javax.tools.JavaFileObject.Kind;
import javax.tools.SimpleJavaFileObject;
import javax.tools.StandardJavaFileManager;
import javax.tools.ToolProvider;

/**
 * The tests of the sentences can fail: for each way told to break a sentence, the class is edited so
 * in memory, and the sentence's own test must find a wrong answer in what comes of it.
 */
public final class BrokenTest {
    private static final JavaCompiler COMPILER = ToolProvider.getSystemJavaCompiler();
    /** One for each thread, used again: to open the library's classes takes most of the time. */
    private static final ThreadLocal<StandardJavaFileManager> FILES =
            ThreadLocal.withInitial(() -> COMPILER.getStandardFileManager(null, null, null));

    private record Case(int number, String name, String[] edits) { }

    public static void main(String[] args) throws Exception {
        if (COMPILER == null) {
            System.out.println("BrokenTest: this java has no compiler within, nothing was tried");
            return;
        }
        String source = Files.readString(Path.of("src/main/java/TwinOrders.java"));
        List<Case> cases = cases();
        List<String> faults = cases.parallelStream().map(c -> fault(c, source)).filter(f -> !f.isEmpty()).toList();
        faults.forEach(System.out::println);
        System.out.println("BrokenTest: " + cases.size() + " ways to break a sentence, not found: " + faults.size());
        if (!faults.isEmpty()) {
            System.exit(1);
        }
    }

    private static List<Case> cases() {
        List<Case> cases = new ArrayList<>();
        List<Sentences.Sentence> all = Sentences.whole().all;
        for (int number = 0; number < all.size(); number++) {
            Sentences.Sentence one = all.get(number);
            for (String[] edits : one.breaks) {
                cases.add(new Case(number, one.name(), edits));
            }
            if (one.breaks.isEmpty()) {
                // Without an edit the class is whole, so that its test finds nothing and is told as a fault.
                cases.add(new Case(number, one.name(), new String[] {}));
            }
        }
        return cases;
    }

    private static String fault(Case one, String source) {
        String text = source;
        for (int i = 0; i + 1 < one.edits().length; i += 2) {
            String code = one.edits()[i];
            int at = text.indexOf(code);
            if (at < 0 || text.indexOf(code, at + 1) >= 0) {
                return one.name() + ": what is to be edited must stand in the class once: " + code;
            }
            text = text.substring(0, at) + one.edits()[i + 1] + text.substring(at + code.length());
        }
        try {
            Map<String, byte[]> classes = compiled(text);
            if (classes.isEmpty()) {
                return one.name() + ": what comes of it is no Java: " + String.join(" => ", one.edits());
            }
            Class<?> tests = new Apart(classes).loadClass("Sentences");
            int wrong = (int) tests.getDeclaredMethod("wrongOf", int.class).invoke(null, one.number());
            return wrong > 0 ? "" : one.name() + ": not found: " + String.join(" => ", one.edits());
        } catch (ReflectiveOperationException e) {
            return one.name() + ": " + e;
        }
    }

    /** The classes by name, none if the text does not compile. */
    private static Map<String, byte[]> compiled(String text) {
        Map<String, ByteArrayOutputStream> written = new HashMap<>();
        JavaFileManager inMemory = new ForwardingJavaFileManager<JavaFileManager>(FILES.get()) {
            @Override
            public JavaFileObject getJavaFileForOutput(Location place, String name, Kind kind, FileObject beside) {
                return new SimpleJavaFileObject(URI.create("memory:///" + name), kind) {
                    @Override
                    public OutputStream openOutputStream() {
                        return written.computeIfAbsent(name, n -> new ByteArrayOutputStream());
                    }
                };
            }
        };
        JavaFileObject file = new SimpleJavaFileObject(URI.create("memory:///TwinOrders.java"), Kind.SOURCE) {
            @Override
            public CharSequence getCharContent(boolean ignore) {
                return text;
            }
        };
        List<String> options = List.of("-proc:none");
        boolean done = COMPILER.getTask(null, inMemory, d -> { }, options, null, List.of(file)).call();
        Map<String, byte[]> classes = new HashMap<>();
        if (done) {
            written.forEach((name, bytes) -> classes.put(name, bytes.toByteArray()));
        }
        return classes;
    }

    /** The broken class and the tests of this folder anew beside it, apart from those of this run. */
    private static final class Apart extends ClassLoader {
        private final Map<String, byte[]> classes;

        Apart(Map<String, byte[]> classes) {
            super(BrokenTest.class.getClassLoader());
            this.classes = classes;
        }

        @Override
        protected Class<?> loadClass(String name, boolean resolve) throws ClassNotFoundException {
            synchronized (getClassLoadingLock(name)) {
                Class<?> known = findLoadedClass(name);
                if (known != null) {
                    return known;
                }
                byte[] bytes = classes.containsKey(name) ? classes.get(name) : ofThisFolder(name);
                return bytes == null ? super.loadClass(name, resolve) : defineClass(name, bytes, 0, bytes.length);
            }
        }

        private byte[] ofThisFolder(String name) {
            if (name.contains(".")) {
                return null;
            }
            try (InputStream in = getParent().getResourceAsStream(name + ".class")) {
                return in == null ? null : in.readAllBytes();
            } catch (IOException e) {
                return null;
            }
        }
    }
}
