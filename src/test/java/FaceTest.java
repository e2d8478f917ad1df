import java.io.IOException;
import java.lang.reflect.Constructor;
import java.lang.reflect.Field;
import java.lang.reflect.Method;
import java.lang.reflect.Modifier;
import java.nio.file.Files;
import java.nio.file.Path;
import java.util.Set;
import java.util.StringJoiner;
import java.util.TreeSet;

/** The public face is that of the document, and nothing else can be reached. */
public final class FaceTest {
    public static void main(String[] args) throws IOException {
        Check.due("the face", ownFace(), facesOfDocument());
        Check.due("a final class", Modifier.isPublic(Eggboxery.class.getModifiers())
                && Modifier.isFinal(Eggboxery.class.getModifiers()), true);
        for (Method method : Eggboxery.class.getDeclaredMethods()) {
            boolean isHidden = Modifier.isPrivate(method.getModifiers());
            Check.due("public or private: " + method, isHidden || Modifier.isPublic(method.getModifiers()), true);
        }
        for (Field field : Eggboxery.class.getDeclaredFields()) {
            Check.due("private: " + field, Modifier.isPrivate(field.getModifiers()), true);
        }
        for (Class<?> inside : Eggboxery.class.getDeclaredClasses()) {
            Check.due("static: " + inside, Modifier.isStatic(inside.getModifiers()), true);
            Check.due("not public: " + inside, Modifier.isPublic(inside.getModifiers()), false);
        }
        Check.due("one constructor", Eggboxery.class.getDeclaredConstructors().length, 1);
        Check.end();
    }

    private static Set<String> ownFace() {
        Set<String> face = new TreeSet<>();
        for (Method method : Eggboxery.class.getDeclaredMethods()) {
            if (Modifier.isPublic(method.getModifiers())) {
                String named = method.getReturnType().getSimpleName() + " " + method.getName();
                face.add(signed(named, method.getParameterTypes(), method.getExceptionTypes()));
            }
        }
        for (Constructor<?> constructor : Eggboxery.class.getConstructors()) {
            face.add(signed("Eggboxery", constructor.getParameterTypes(), constructor.getExceptionTypes()));
        }
        return face;
    }

    private static String signed(String named, Class<?>[] parameters, Class<?>[] exceptions) {
        StringJoiner types = new StringJoiner(", ", "(", ")");
        for (Class<?> parameter : parameters) {
            types.add(parameter.getSimpleName());
        }
        StringJoiner thrown = new StringJoiner(", ", " throws ", "").setEmptyValue("");
        for (Class<?> exception : exceptions) {
            thrown.add(exception.getSimpleName());
        }
        return named + types + thrown;
    }

    /** The lines of the document's face, with the names of the parameters left out. */
    private static Set<String> facesOfDocument() throws IOException {
        Set<String> face = new TreeSet<>();
        for (String line : Files.readAllLines(Path.of("../shared/DOC.md"))) {
            if (line.startsWith("    public ")) {
                String bare = line.substring("    public ".length(), line.length() - 1);
                int open = bare.indexOf('(');
                int close = bare.indexOf(')');
                String types = bare.substring(open + 1, close).replaceAll("(\\w+) \\w+", "$1");
                face.add(bare.substring(0, open + 1) + types + bare.substring(close));
            }
        }
        return face;
    }
}
