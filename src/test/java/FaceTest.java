import java.lang.reflect.Constructor;
import java.lang.reflect.Field;
import java.lang.reflect.Method;
import java.lang.reflect.Modifier;
import java.util.Arrays;
import java.util.HashSet;
import java.util.Set;
import java.util.TreeSet;

/** The public face is the document's and nothing else (also rules 1, 2 and 5 of LANGUAGE.md). */
public final class FaceTest {
    private static final String[] METHODS = {
        "boolean append(int, int, int)",
        "boolean write(int, int, int, int)",
        "int read(int, int, int)",
        "int length(int, int)",
        "int erase(int, int)",
        "int sync(int)",
        "boolean squeeze(int)",
        "int bind(int, boolean)",
        "boolean put(int, int, int, int)",
        "int get(int, int, int)",
        "boolean copy(int, int, int)",
        "boolean release(int, int)",
        "boolean ask(int, int)",
        "int state(int, int)",
        "int pass(int)",
        "int time()",
        "int free(boolean)",
        "int held(int, boolean)",
        "int losses(int)",
        "int transfers(boolean)",
    };
    private static final Checks CHECKS = new Checks("FaceTest");

    public static void main(String[] args) {
        constants();
        theClass();
        methods();
        fields();
        nestedClasses();
        CHECKS.end();
    }

    private static void constants() {
        CHECKS.due("NONE", BindingKernel.NONE, -1);
        CHECKS.due("REFUSED", BindingKernel.REFUSED, -2);
        CHECKS.due("WAITS", BindingKernel.WAITS, -3);
    }

    private static void theClass() {
        int modifiers = BindingKernel.class.getModifiers();
        CHECKS.due("the class is public and final",
                Modifier.isPublic(modifiers) && Modifier.isFinal(modifiers), true);
        Constructor<?>[] constructors = BindingKernel.class.getDeclaredConstructors();
        CHECKS.due("constructors", constructors.length, 1);
        CHECKS.due("the constructor is public and takes nothing",
                Modifier.isPublic(constructors[0].getModifiers())
                        && constructors[0].getParameterCount() == 0, true);
    }

    private static void methods() {
        Set<String> seen = new TreeSet<>();
        Set<String> publicNames = new HashSet<>();
        for (Method method : BindingKernel.class.getDeclaredMethods()) {
            if (!Modifier.isPrivate(method.getModifiers())) {
                seen.add(signatureOf(method));
                publicNames.add(method.getName());
            }
        }
        Set<String> wanted = new TreeSet<>(Arrays.asList(METHODS));
        CHECKS.due("the methods are those of the document: " + seen, seen.equals(wanted), true);
        for (Method method : BindingKernel.class.getDeclaredMethods()) {
            if (Modifier.isPrivate(method.getModifiers())) {
                CHECKS.due("private " + method.getName() + " bears a public name",
                        publicNames.contains(method.getName()), false);
            } else {
                CHECKS.due(method.getName() + " is public and of the object",
                        Modifier.isPublic(method.getModifiers())
                                && !Modifier.isStatic(method.getModifiers()), true);
            }
        }
    }

    private static String signatureOf(Method method) {
        StringBuilder text = new StringBuilder(method.getReturnType().getName());
        text.append(' ').append(method.getName()).append('(');
        String gap = "";
        for (Class<?> type : method.getParameterTypes()) {
            text.append(gap).append(type.getName());
            gap = ", ";
        }
        return text.append(')').toString();
    }

    private static void fields() {
        Set<String> seen = new TreeSet<>();
        for (Field field : BindingKernel.class.getDeclaredFields()) {
            int modifiers = field.getModifiers();
            if (!Modifier.isPrivate(modifiers)) {
                seen.add(field.getName());
            }
            CHECKS.due("the field " + field.getName() + " is static and can change",
                    Modifier.isStatic(modifiers) && !Modifier.isFinal(modifiers), false);
        }
        Set<String> wanted = new TreeSet<>(Arrays.asList("NONE", "REFUSED", "WAITS"));
        CHECKS.due("the fields to be seen are the constants: " + seen, seen.equals(wanted), true);
    }

    private static void nestedClasses() {
        for (Class<?> nested : BindingKernel.class.getDeclaredClasses()) {
            int modifiers = nested.getModifiers();
            CHECKS.due(nested.getName() + " is static and not public",
                    Modifier.isStatic(modifiers) && !Modifier.isPublic(modifiers)
                            && !Modifier.isProtected(modifiers), true);
        }
    }
}
