import java.io.IOException;
import java.lang.reflect.Constructor;
import java.lang.reflect.Field;
import java.lang.reflect.Method;
import java.lang.reflect.Modifier;
import java.util.Arrays;
import java.util.List;
import java.util.Set;
import java.util.TreeSet;
import java.util.regex.Matcher;
import java.util.regex.Pattern;
import java.util.stream.Collectors;

/** The public face is the document's, and nothing else of the class can be seen from outside. */
public final class FaceTest {
    private static final Pattern CONSTANT = Pattern.compile("([A-Z]+) = (-?\\d+)");
    private static final Pattern METHOD = Pattern.compile("public int (\\w+)\\((.*)\\);");
    private static final Check check = new Check("FaceTest");

    public static void main(String[] args) throws IOException, IllegalAccessException {
        List<String> face = new Document().face();
        int modifiers = ShutWays.class.getModifiers();
        check.holds("the class is public and final", Modifier.isPublic(modifiers) && Modifier.isFinal(modifiers));
        check.holds("the document has it so", face.contains("public final class ShutWays {"));
        fields(String.join("\n", face));
        methods(String.join("\n", face));
        constructors(face);
        classesInside();
        check.end();
    }

    private static void fields(String face) throws IllegalAccessException {
        Set<String> due = new TreeSet<>();
        Matcher constant = CONSTANT.matcher(face);
        while (constant.find()) {
            due.add(constant.group());
        }
        Set<String> seen = new TreeSet<>();
        for (Field field : ShutWays.class.getDeclaredFields()) {
            int modifiers = field.getModifiers();
            if (!Modifier.isPrivate(modifiers)) {
                check.holds(field + " is a public int", Modifier.isPublic(modifiers) && field.getType() == int.class);
                seen.add(field.getName() + " = " + field.getInt(null));
            }
        }
        check.due("constants of the document", due.size(), 5);
        check.holds("constants: " + seen + ", due are " + due, seen.equals(due));
    }

    private static void methods(String face) {
        Set<String> names = new TreeSet<>();
        Set<String> due = new TreeSet<>();
        Matcher line = METHOD.matcher(face);
        while (line.find()) {
            names.add(line.group(1));
            due.add("int " + line.group(1) + "(" + line.group(2).replaceAll("(\\w+) \\w+", "$1") + ")");
        }
        Set<String> seen = new TreeSet<>();
        for (Method method : ShutWays.class.getDeclaredMethods()) {
            if (Modifier.isPublic(method.getModifiers())) {
                seen.add(told(method));
            } else if (!method.isSynthetic()) {
                check.holds(method + " is private", Modifier.isPrivate(method.getModifiers()));
                check.holds(method + " has a name of its own", !names.contains(method.getName()));
            }
        }
        check.due("methods of the document", due.size(), 27);
        check.holds("methods: " + seen + ", due are " + due, seen.equals(due));
    }

    private static String told(Method method) {
        String parameters = Arrays.stream(method.getParameterTypes()).map(Class::getName).collect(Collectors.joining(", "));
        return method.getReturnType().getName() + " " + method.getName() + "(" + parameters + ")";
    }

    private static void constructors(List<String> face) {
        Constructor<?>[] all = ShutWays.class.getDeclaredConstructors();
        check.due("constructors", all.length, 1);
        check.holds("it is public, without parameters",
                Modifier.isPublic(all[0].getModifiers()) && all[0].getParameterCount() == 0);
        check.holds("the document has it so", face.contains("public ShutWays();"));
    }

    private static void classesInside() {
        for (Class<?> inside : ShutWays.class.getDeclaredClasses()) {
            int modifiers = inside.getModifiers();
            check.holds(inside + " is static, and cannot be seen outside",
                    Modifier.isStatic(modifiers) && !Modifier.isPublic(modifiers) && !Modifier.isProtected(modifiers));
        }
    }
}
