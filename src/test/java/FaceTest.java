import java.io.IOException;
import java.lang.reflect.Constructor;
import java.lang.reflect.Field;
import java.lang.reflect.Method;
import java.lang.reflect.Modifier;
import java.nio.file.Files;
import java.nio.file.Path;
import java.util.Set;
import java.util.TreeSet;

/** The class has the document's face and no other, and the source keeps to rules that a text search can see. */
public final class FaceTest extends Checks {
    private static final Set<String> METHODS = Set.of(
            "int places(int)", "int digit(int,int)", "int bit(int,int)", "int linear(int)",
            "int line(int,int,boolean)", "int draw(int)", "int is(int)", "int distance(int)",
            "int nearest(int,int)", "int mend(int)", "long pass(int,int)", "int repeats(int,int,int)",
            "int worst(int,int,int,int)", "int mended(int,int)", "int shows(int,int,int)",
            "int witness(int)", "int count(int)");

    private static String face(Method method) {
        StringBuilder text = new StringBuilder(method.getReturnType().getName()).append(' ').append(method.getName()).append('(');
        String gap = "";
        for (Class<?> type : method.getParameterTypes()) {
            text.append(gap).append(type.getName());
            gap = ",";
        }
        return text.append(')').toString();
    }

    private static void constantsAndConstructor() {
        due("NONE", FewLooks.NONE, -1);
        due("BAD", FewLooks.BAD, -2);
        due("NOT", FewLooks.NOT, -3);
        due("public and final", FewLooks.class.getModifiers() & (Modifier.PUBLIC | Modifier.FINAL), Modifier.PUBLIC | Modifier.FINAL);
        Constructor<?>[] made = FewLooks.class.getDeclaredConstructors();
        due("constructors", made.length, 1);
        due("constructor's parameters", made[0].getParameterCount(), 0);
        due("constructor is public", Modifier.isPublic(made[0].getModifiers()), true);
    }

    private static void members() {
        Set<String> open = new TreeSet<>();
        Set<String> openNames = new TreeSet<>();
        for (Method method : FewLooks.class.getDeclaredMethods()) {
            if (Modifier.isPublic(method.getModifiers())) {
                open.add(face(method));
                openNames.add(method.getName());
                due("static " + method.getName(), Modifier.isStatic(method.getModifiers()), false);
            }
        }
        due("public methods", open, new TreeSet<>(METHODS));
        for (Method method : FewLooks.class.getDeclaredMethods()) {
            if (!Modifier.isPublic(method.getModifiers())) {
                due("private " + method.getName(), Modifier.isPrivate(method.getModifiers()), true);
                due("a public name for private " + method.getName(), openNames.contains(method.getName()), false);
            }
        }
        for (Field field : FewLooks.class.getDeclaredFields()) {
            boolean told = Set.of("NONE", "BAD", "NOT").contains(field.getName());
            due("public " + field.getName(), Modifier.isPublic(field.getModifiers()), told);
            due("private " + field.getName(), Modifier.isPrivate(field.getModifiers()), !told);
        }
        for (Class<?> inside : FewLooks.class.getDeclaredClasses()) {
            due("static " + inside.getName(), Modifier.isStatic(inside.getModifiers()), true);
        }
    }

    private static void words() throws IOException {
        String source = Files.readString(Path.of("src/main/java/FewLooks.java"));
        String code = source.replaceAll("(?s)/\\*.*?\\*/", "").replaceAll("//[^\n]*", "");
        for (String word : new String[] {"throw", "try", "catch", "synchronized", "assert", "import", "package", "double", "float"}) {
            due("the word " + word, code.matches("(?s).*\\b" + word + "\\b.*"), false);
        }
        due("lambda or method reference", code.contains("->") || code.contains("::"), false);
        // what calls make would fill the one room that all calls of a run live in
        for (String line : code.split("\n")) {
            boolean makes = line.matches(".*\\bnew\\b.*");
            due("made outside a field: " + line.trim(), makes && !line.trim().startsWith("private final "), false);
        }
    }

    public static void main(String[] args) throws IOException {
        constantsAndConstructor();
        members();
        words();
        end("the face is as due");
    }
}
