import java.lang.reflect.Constructor;
import java.lang.reflect.Field;
import java.lang.reflect.Method;
import java.lang.reflect.Modifier;
import java.nio.file.Files;
import java.nio.file.Path;
import java.util.ArrayList;
import java.util.Arrays;
import java.util.HashSet;
import java.util.List;
import java.util.Set;
import java.util.TreeSet;
import java.util.regex.Matcher;
import java.util.regex.Pattern;

/** The class shows the document's face and nothing else (LANGUAGE.md, rule 1); argument: DOC.md. */
public final class FaceTests {
    private static final Pattern METHOD =
            Pattern.compile("    public (\\w+) (\\w+)\\((.*?)\\)(?: throws (.*))?;");

    public static void main(String[] args) throws Exception {
        Set<String> due = faceOf(Files.readAllLines(Path.of(args[0])));
        Checks.same("number of methods in the document", "45", String.valueOf(due.size()));
        Checks.same("the face", String.join("\n", due), String.join("\n", shown()));
        Checks.same("class", "public final", Modifier.toString(Thicket.class.getModifiers()));
        checkConstructor();
        checkHidden();
        Checks.finish("FaceTests");
    }

    private static Set<String> faceOf(List<String> lines) {
        Set<String> face = new TreeSet<>();
        for (String line : lines) {
            Matcher found = METHOD.matcher(line);
            if (found.matches()) {
                String takes = found.group(3).replaceAll("(\\w+) \\w+", "$1");
                face.add(described(found.group(1), found.group(2), takes, found.group(4)));
            }
        }
        return face;
    }

    private static Set<String> shown() {
        Set<String> face = new TreeSet<>();
        for (Method method : Thicket.class.getDeclaredMethods()) {
            if (Modifier.isPublic(method.getModifiers())) {
                face.add(described(method.getReturnType().getSimpleName(), method.getName(),
                        names(method.getParameterTypes()), names(method.getExceptionTypes())));
            }
        }
        return face;
    }

    private static String described(String answer, String name, String takes, String fails) {
        return answer + " " + name + "(" + takes + ") throws " + (fails == null ? "" : fails);
    }

    private static String names(Class<?>[] types) {
        List<String> names = new ArrayList<>();
        for (Class<?> type : types) {
            names.add(type.getSimpleName());
        }
        return String.join(", ", names);
    }

    private static void checkConstructor() {
        Constructor<?>[] made = Thicket.class.getDeclaredConstructors();
        Checks.same("constructors", "[public Thicket()]", Arrays.toString(made));
    }

    private static void checkHidden() {
        Set<String> taken = new HashSet<>();
        for (Method method : Thicket.class.getDeclaredMethods()) {
            if (Modifier.isPublic(method.getModifiers())) {
                taken.add(method.getName());
            }
        }
        for (Field field : Thicket.class.getDeclaredFields()) {
            Checks.due("private field " + field, true, () -> isPrivate(field.getModifiers()));
        }
        for (Method method : Thicket.class.getDeclaredMethods()) {
            int flags = method.getModifiers();
            Checks.due("private method " + method, true,
                    () -> Modifier.isPublic(flags)
                            || isPrivate(flags) && !taken.contains(method.getName()));
        }
        for (Class<?> inside : Thicket.class.getDeclaredClasses()) {
            Checks.due("static class " + inside, true,
                    () -> Modifier.isStatic(inside.getModifiers())
                            && isPrivate(inside.getModifiers()));
            for (Method method : inside.getDeclaredMethods()) {
                Checks.due("name of " + method, false, () -> taken.contains(method.getName()));
            }
        }
    }

    private static boolean isPrivate(int flags) {
        return Modifier.isPrivate(flags);
    }
}
