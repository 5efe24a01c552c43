import java.lang.reflect.Constructor;
import java.lang.reflect.Field;
import java.lang.reflect.Method;
import java.lang.reflect.Modifier;
import java.nio.file.Files;
import java.nio.file.Path;
import java.util.Arrays;
import java.util.Set;
import java.util.TreeSet;
import java.util.stream.Collectors;

/** The class has the document's face, all of it and nothing else (LANGUAGE.md, rules 1, 2, 5, 11). */
public final class FaceTest {
    private static final Due due = new Due();

    public static void main(String[] args) throws Exception {
        due.part("face");
        Class<?> face = TwinOrders.class;
        due.isTrue("public and final", Modifier.isPublic(face.getModifiers()) && Modifier.isFinal(face.getModifiers()));
        methods(face);
        Constructor<?>[] made = face.getDeclaredConstructors();
        due.isTrue("one public constructor without arguments", made.length == 1
                && Modifier.isPublic(made[0].getModifiers()) && made[0].getParameterCount() == 0);
        fields(face);
        due.is("classes inside, twelve at most", Math.min(12, face.getDeclaredClasses().length), face.getDeclaredClasses().length);
        for (Class<?> inside : face.getDeclaredClasses()) {
            insideClass(inside);
        }
        due.end("FaceTest");
    }

    private static Set<String> faceOfDocument() throws Exception {
        String text = Files.readString(Path.of("../shared/DOC.md"));
        int from = text.indexOf("public final class TwinOrders {");
        String block = text.substring(from, text.indexOf("```", from));
        return block.lines().map(String::strip).filter(l -> l.startsWith("public int "))
                .map(l -> l.substring("public int ".length(), l.length() - 1).replaceAll("(int|boolean) \\w+", "$1"))
                .collect(Collectors.toCollection(TreeSet::new));
    }

    private static void methods(Class<?> face) throws Exception {
        Set<String> open = new TreeSet<>();
        Set<String> openNames = new TreeSet<>();
        for (Method m : face.getDeclaredMethods()) {
            if (Modifier.isPublic(m.getModifiers())) {
                due.isTrue(m + " answers int and is of an object",
                        m.getReturnType() == int.class && !Modifier.isStatic(m.getModifiers()));
                open.add(m.getName() + "(" + Arrays.stream(m.getParameterTypes()).map(Class::getName)
                        .collect(Collectors.joining(", ")) + ")");
                openNames.add(m.getName());
            } else {
                due.isTrue(m + " is private", Modifier.isPrivate(m.getModifiers()));
            }
        }
        due.is("methods of the document", faceOfDocument().size(), 43 - 1);
        due.isTrue("the document's methods " + open, open.equals(faceOfDocument()));
        for (Class<?> any : face.getNestMembers()) {
            for (Method m : any.getDeclaredMethods()) {
                due.isTrue(m + " bears no public name", Modifier.isPublic(m.getModifiers()) || !openNames.contains(m.getName()));
                due.isTrue(m + " has at most seven parameters", m.getParameterCount() <= 7);
            }
        }
    }

    private static void fields(Class<?> face) throws Exception {
        int ofObject = 0;
        for (Field f : face.getDeclaredFields()) {
            if (f.getName().equals("NONE")) {
                due.isTrue("NONE is a public constant", Modifier.isPublic(f.getModifiers())
                        && Modifier.isStatic(f.getModifiers()) && Modifier.isFinal(f.getModifiers()));
                continue;
            }
            due.isTrue(f + " is private", Modifier.isPrivate(f.getModifiers()));
            constantOrNot(f);
            ofObject += Modifier.isStatic(f.getModifiers()) ? 0 : 1;
        }
        due.isTrue("twenty fields at most", ofObject <= 20);
    }

    private static void constantOrNot(Field f) {
        if (Modifier.isStatic(f.getModifiers())) {
            due.isTrue(f + " is a constant", Modifier.isFinal(f.getModifiers()) && f.getType().isPrimitive());
        }
    }

    private static void insideClass(Class<?> inside) {
        due.isTrue(inside + " is static", Modifier.isStatic(inside.getModifiers()));
        due.isTrue(inside + " is not open", !Modifier.isPublic(inside.getModifiers())
                && !Modifier.isProtected(inside.getModifiers()));
        int fields = 0;
        for (Field f : inside.getDeclaredFields()) {
            constantOrNot(f);
            fields += Modifier.isStatic(f.getModifiers()) ? 0 : 1;
        }
        due.isTrue(inside + " has twenty fields at most", fields <= 20);
    }
}
