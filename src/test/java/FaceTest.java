import java.lang.reflect.Constructor;
import java.lang.reflect.Field;
import java.lang.reflect.Method;
import java.lang.reflect.Modifier;
import java.util.Set;
import java.util.TreeSet;

/** The public face is the document's, and nothing else of the class can be seen from outside. */
public final class FaceTest {
    private static final Check check = new Check("FaceTest");

    public static void main(String[] args) {
        check.holds("the class is public and final",
                Modifier.isPublic(ShutWays.class.getModifiers()) && Modifier.isFinal(ShutWays.class.getModifiers()));
        constants();
        methods();
        constructors();
        fields();
        check.end();
    }

    private static void constants() {
        check.due("NONE", ShutWays.NONE, -1);
        check.due("UNKNOWN", ShutWays.UNKNOWN, -2);
        check.due("OUTSIDE", ShutWays.OUTSIDE, -3);
        check.due("NOT", ShutWays.NOT, -4);
        check.due("FULL", ShutWays.FULL, -5);
    }

    private static void methods() {
        Set<String> due = new TreeSet<>(Set.of("write(long,int)", "erase()", "fault()", "town()", "street(int,int)",
                "lane(int,int)", "as(int)", "way(int)", "go(int)", "flood(int,int)", "fair()", "keep(int)",
                "back(int)", "later(int)", "never()", "apart()", "round(int)", "passed(int,int)", "most(int)",
                "build(int,int,int)", "chosen(int,int)", "carts(int,int)", "night(int)", "forget()", "judge()",
                "fits(int,int)", "count(int)"));
        Set<String> names = new TreeSet<>();
        Set<String> seen = new TreeSet<>();
        for (Method method : ShutWays.class.getDeclaredMethods()) {
            if (Modifier.isPublic(method.getModifiers())) {
                seen.add(told(method));
                names.add(method.getName());
                check.holds(method + " answers an int", method.getReturnType() == int.class);
            }
        }
        check.holds("public methods: " + seen, seen.equals(due));
        for (Method method : ShutWays.class.getDeclaredMethods()) {
            if (!Modifier.isPublic(method.getModifiers()) && !method.isSynthetic()) {
                check.holds(method + " is private", Modifier.isPrivate(method.getModifiers()));
                check.holds(method + " has a name of its own", !names.contains(method.getName()));
            }
        }
    }

    private static String told(Method method) {
        StringBuilder told = new StringBuilder(method.getName()).append('(');
        for (Class<?> type : method.getParameterTypes()) {
            told.append(told.charAt(told.length() - 1) == '(' ? "" : ",").append(type.getName());
        }
        return told.append(')').toString();
    }

    private static void constructors() {
        Constructor<?>[] all = ShutWays.class.getDeclaredConstructors();
        check.due("constructors", all.length, 1);
        check.holds("it is public, without parameters",
                Modifier.isPublic(all[0].getModifiers()) && all[0].getParameterCount() == 0);
    }

    private static void fields() {
        Set<String> due = Set.of("NONE", "UNKNOWN", "OUTSIDE", "NOT", "FULL");
        int open = 0;
        for (Field field : ShutWays.class.getDeclaredFields()) {
            int modifiers = field.getModifiers();
            if (!Modifier.isPrivate(modifiers)) {
                open++;
                check.holds(field + " is the document's", due.contains(field.getName()) && Modifier.isPublic(modifiers));
            }
            check.holds(field + " is no changing static", !Modifier.isStatic(modifiers) || Modifier.isFinal(modifiers));
        }
        check.due("constants", open, due.size());
    }
}
