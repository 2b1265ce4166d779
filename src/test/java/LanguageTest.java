import java.io.IOException;
import java.lang.reflect.Field;
import java.lang.reflect.Method;
import java.lang.reflect.Modifier;
import java.nio.file.Files;
import java.nio.file.Path;
import java.util.ArrayList;
import java.util.Arrays;
import java.util.HashSet;
import java.util.List;
import java.util.Set;
import java.util.regex.Matcher;
import java.util.regex.Pattern;

/** The rules of LANGUAGE.md that can be seen in the text of the class or by reflection. */
public final class LanguageTest {
    private static final Path SOURCE = Path.of("src/main/java/BindingKernel.java");
    private static final Set<String> IMPORTS = Set.of("java.util.Arrays", "java.util.ArrayList",
            "java.util.List", "java.util.Iterator");
    private static final Set<String> FORBIDDEN = Set.of("package", "throw", "throws", "try", "catch",
            "finally", "synchronized", "assert", "native", "volatile", "Object", "var");
    private static final Set<String> LIBRARY = Set.of("String", "StringBuilder", "Integer", "Long",
            "Math", "ArrayList", "List", "Iterator", "Iterable", "Comparable", "System", "Arrays",
            "Override");
    private static final Set<String> OF_SYSTEM = Set.of("arraycopy");
    private static final Set<String> OF_ARRAYS = Set.of("copyOf", "copyOfRange", "fill");
    private static final Checks CHECKS = new Checks("LanguageTest");

    private LanguageTest() {
    }

    public static void main(String[] args) throws IOException {
        String code = withoutComments(Files.readString(SOURCE));
        imports(code);
        words(code);
        libraryFunctions(code);
        ownTypes(code);
        lengthsOfMethods(code);
        numberOfClasses();
        for (Class<?> each : allClasses()) {
            members(each);
        }
        CHECKS.end();
    }

    private static String withoutComments(String text) {
        return text.replaceAll("(?s)/\\*.*?\\*/", "").replaceAll("//[^\n]*", "");
    }

    private static void imports(String code) {
        CHECKS.about("rule 4: only what stands here");
        Matcher matcher = Pattern.compile("\\bimport\\s+([^;]+);").matcher(code);
        while (matcher.find()) {
            CHECKS.due("import " + matcher.group(1), IMPORTS.contains(matcher.group(1)), true);
        }
        String rest = code.replaceAll("\\bimport[^;]+;", "");
        CHECKS.due("a name with its package", rest.matches("(?s).*\\bjavax?\\s*\\..*"), false);
    }

    private static void words(String code) {
        CHECKS.about("rules 2 and 6: no lambda, no method reference, no throw, try, catch ..");
        Matcher matcher = Pattern.compile("[A-Za-z_]\\w*").matcher(code);
        while (matcher.find()) {
            CHECKS.due("the word " + matcher.group(), FORBIDDEN.contains(matcher.group()), false);
        }
        CHECKS.due("->", code.contains("->"), false);
        CHECKS.due("::", code.contains("::"), false);
        CHECKS.due("a static block", code.matches("(?s).*\\bstatic\\s*\\{.*"), false);
    }

    private static void libraryFunctions(String code) {
        CHECKS.about("rule 4: the static functions of Integer, Long and Math, none ending in Exact");
        Matcher matcher = Pattern.compile("\\b(Integer|Long|Math|System|Arrays)\\s*\\.\\s*(\\w+)\\s*(\\(?)")
                .matcher(code.replaceAll("\\bimport[^;]+;", ""));
        while (matcher.find()) {
            CHECKS.due(matcher.group(), isListed(matcher.group(1), matcher.group(2))
                    && matcher.group(3).equals("("), true);
        }
    }

    private static boolean isListed(String type, String function) {
        switch (type) {
            case "System": return OF_SYSTEM.contains(function);
            case "Arrays": return OF_ARRAYS.contains(function);
            default: return !function.endsWith("Exact") && !function.equals("random");
        }
    }

    private static void ownTypes(String code) {
        CHECKS.about("rule 3: your own classes, and the library's that stand there");
        Set<String> own = new HashSet<>();
        for (Class<?> each : allClasses()) {
            own.add(each.getSimpleName());
        }
        String rest = code.replaceAll("\\bimport[^;]+;", "");
        Matcher matcher = Pattern.compile("\\b[A-Z]\\w*[a-z]\\w*").matcher(rest);
        while (matcher.find()) {
            String name = matcher.group();
            CHECKS.due("the type " + name, own.contains(name) || LIBRARY.contains(name), true);
        }
    }

    private static void lengthsOfMethods(String code) {
        CHECKS.about("rule 11: methods stay short (some sixty lines)");
        int start = 0;
        int line = 0;
        for (String text : code.split("\n", -1)) {
            line++;
            if (text.matches("( {4}| {8})[^ ].*\\) \\{")) {
                start = line;
            } else if (text.matches("( {4}| {8})}")) {
                CHECKS.due("a method of " + (line - start) + " lines", line - start <= 60 || start == 0,
                        true);
                start = 0;
            }
        }
    }

    private static List<Class<?>> allClasses() {
        List<Class<?>> all = new ArrayList<>();
        all.add(BindingKernel.class);
        all.addAll(Arrays.asList(BindingKernel.class.getDeclaredClasses()));
        return all;
    }

    private static void numberOfClasses() {
        CHECKS.about("rule 11: the file has at most some twelve classes");
        CHECKS.due("classes", allClasses().size() <= 12, true);
    }

    private static void members(Class<?> each) {
        CHECKS.about("rule 1: no private method bears the name of a public one");
        Set<String> face = new HashSet<>();
        for (Method method : BindingKernel.class.getDeclaredMethods()) {
            if (Modifier.isPublic(method.getModifiers())) {
                face.add(method.getName());
            }
        }
        for (Method method : each.getDeclaredMethods()) {
            String name = each.getSimpleName() + "." + method.getName();
            CHECKS.due(name, face.contains(method.getName()) && each != BindingKernel.class, false);
            CHECKS.due("parameters of " + name, method.getParameterCount() <= 7, true);
        }
        fields(each);
    }

    private static void fields(Class<?> each) {
        CHECKS.about("rules 5 and 11: static fields are final, and a class has some twenty others");
        int own = 0;
        for (Field field : each.getDeclaredFields()) {
            if (Modifier.isStatic(field.getModifiers())) {
                CHECKS.due(each.getSimpleName() + "." + field.getName(),
                        Modifier.isFinal(field.getModifiers()), true);
            } else {
                own++;
            }
        }
        CHECKS.due("fields of " + each.getSimpleName(), own <= 20, true);
    }
}
