import java.io.IOException;
import java.lang.reflect.Field;
import java.lang.reflect.Modifier;
import java.nio.file.Files;
import java.nio.file.Path;
import java.util.List;
import java.util.regex.Matcher;
import java.util.regex.Pattern;

/** Those rules of LANGUAGE.md that a look at the class can tell. Runs where src lies. */
public final class LanguageTest {
    private static final int LONGEST_METHOD = 60, MOST_PARAMETERS = 7, MOST_CLASSES = 12, MOST_FIELDS = 20;
    private static final Check check = new Check("LanguageTest");

    public static void main(String[] args) throws IOException {
        String text = Files.readString(Path.of("src/main/java/ShutWays.java"));
        String code = text.replaceAll("(?s)/\\*.*?\\*/", "").replaceAll("//[^\n]*", "").replaceAll("\"[^\"\n]*\"", "\"\"");
        check.holds("no package", !Pattern.compile("(?m)^package ").matcher(code).find());
        for (String word : List.of("throw", "throws", "try", "catch", "synchronized", "assert", "Object", "System\\.out",
                "hashCode", "toString", "Random", "Thread", "float", "double", "protected")) {
            check.holds("without " + word, !Pattern.compile("\\b" + word + "\\b").matcher(code).find());
        }
        for (String sign : List.of("->", "::", "@", "Exact(", "static {", "MAX_VALUE", "MIN_VALUE")) {
            check.holds("without " + sign, !code.contains(sign));
        }
        Matcher imports = Pattern.compile("(?m)^import (.*);").matcher(code);
        while (imports.find()) {
            check.holds("import of " + imports.group(1), List.of("java.util.Arrays", "java.util.ArrayList", "java.util.List")
                    .contains(imports.group(1)));
        }
        methods(text.split("\n"));
        classes();
        check.end();
    }

    private static void methods(String[] lines) {
        Pattern head = Pattern.compile("^(\\s+)[\\w\\[\\] ]+\\((.*)\\) \\{$");
        for (int i = 0; i < lines.length; i++) {
            Matcher m = head.matcher(lines[i]);
            if (m.matches() && !lines[i].trim().matches("(if|for|while|switch)\\b.*")) {
                boolean isConstructor = lines[i].trim().matches("(public )?[A-Z]\\w*\\(.*");
                int end = i;
                while (!lines[end].equals(m.group(1) + "}")) {
                    end++;
                    check.holds(lines[i].trim() + " makes no object: all are made once, as there is one room for all calls",
                            isConstructor || !lines[end].matches(".*\\bnew \\w.*"));
                }
                check.holds(lines[i].trim() + " is short", end - i + 1 <= LONGEST_METHOD);
                check.holds(lines[i].trim() + " takes few", m.group(2).split(",").length <= MOST_PARAMETERS);
            }
        }
    }

    private static void classes() {
        Class<?>[] inside = ShutWays.class.getDeclaredClasses();
        check.holds("few classes", inside.length + 1 <= MOST_CLASSES);
        fields(ShutWays.class);
        for (Class<?> one : inside) {
            fields(one);
            check.due("classes inside " + one, one.getDeclaredClasses().length, 0);
        }
    }

    private static void fields(Class<?> one) {
        int count = 0;
        for (Field field : one.getDeclaredFields()) {
            boolean isStatic = Modifier.isStatic(field.getModifiers());
            check.holds(field + " is final, if static", !isStatic || Modifier.isFinal(field.getModifiers()));
            count += isStatic ? 0 : 1;
        }
        check.holds(one + " has few fields", count <= MOST_FIELDS);
    }
}
