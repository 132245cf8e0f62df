import java.lang.reflect.Constructor;
import java.lang.reflect.Field;
import java.lang.reflect.Method;
import java.lang.reflect.Modifier;
import java.util.Arrays;
import java.util.HashSet;
import java.util.Set;
import java.util.TreeSet;

/** The public face, to the letter, and what LANGUAGE.md's rules 1, 2 and 5 ask of the members. */
public final class FaceTest {
    private static final String[] FACE = {
        "int letter(int)", "int blank()", "int fault()", "int will()",
        "int about(int, int)", "int as(int, int)", "int has(int)", "int worth(int, int, int)",
        "int deal()", "int may(int, int)", "int change(int, int)",
        "int ends(int)", "int served(int, int)", "int worst(int)",
        "int hear(int, int, int, boolean)", "int forget()", "int truths(int, int)",
        "int ask(int, int)", "int years(int, int, int)",
        "int image()", "int restore()", "int count(int)", "long digest()"};
    private static final String[] CONSTANTS = {"NONE", "UNKNOWN", "OUTSIDE", "STATE", "FULL"};

    private static int wrong = 0;

    private static void due(String what, boolean so) {
        if (!so) {
            wrong++;
            System.out.println("not as due: " + what);
        }
    }

    public static void main(String[] args) {
        Class<?> face = HeirsInsulted.class;
        due("public and final", Modifier.isPublic(face.getModifiers()) && Modifier.isFinal(face.getModifiers()));
        methods(face);
        fields(face);
        constructors(face);
        nested(face);
        System.out.println(wrong == 0 ? "the face is as due" : wrong + " faults of the face");
        if (wrong != 0) {
            System.exit(1);
        }
    }

    private static void methods(Class<?> face) {
        Set<String> seen = new TreeSet<>();
        Set<String> names = names();
        for (Method method : face.getDeclaredMethods()) {
            if (method.isSynthetic()) {
                continue;
            }
            if (Modifier.isPrivate(method.getModifiers())) {
                due("no private method is called " + method.getName(), !names.contains(method.getName()));
            } else {
                due(method.getName() + " is public, of an object", method.getModifiers() == Modifier.PUBLIC);
                seen.add(told(method));
            }
        }
        due("the methods are " + seen, seen.equals(new TreeSet<>(Arrays.asList(FACE))));
    }

    private static Set<String> names() {
        Set<String> names = new HashSet<>();
        for (String method : FACE) {
            names.add(method.substring(method.indexOf(' ') + 1, method.indexOf('(')));
        }
        return names;
    }

    private static String told(Method method) {
        StringBuilder text = new StringBuilder();
        for (Class<?> type : method.getParameterTypes()) {
            text.append(text.length() == 0 ? "" : ", ").append(type.getName());
        }
        return method.getReturnType().getName() + " " + method.getName() + "(" + text + ")";
    }

    private static void fields(Class<?> face) {
        Set<String> seen = new TreeSet<>();
        for (Field field : face.getDeclaredFields()) {
            int modifiers = field.getModifiers();
            if (!Modifier.isPrivate(modifiers) && !field.isSynthetic()) {
                seen.add(field.getName());
                due(field.getName() + " is a constant", Modifier.isPublic(modifiers)
                        && Modifier.isStatic(modifiers) && field.getType() == int.class);
            }
            due(field.getName() + ": static ones are final",
                    !Modifier.isStatic(modifiers) || Modifier.isFinal(modifiers));
        }
        due("the constants are " + seen, seen.equals(new TreeSet<>(Arrays.asList(CONSTANTS))));
    }

    private static void constructors(Class<?> face) {
        Constructor<?>[] all = face.getDeclaredConstructors();
        due("one constructor, public, of nothing", all.length == 1
                && Modifier.isPublic(all[0].getModifiers()) && all[0].getParameterCount() == 0);
    }

    private static void nested(Class<?> face) {
        due("some twelve classes", face.getDeclaredClasses().length <= 11);
        for (Class<?> inside : face.getDeclaredClasses()) {
            int modifiers = inside.getModifiers();
            due(inside + " is static, and not public or protected", Modifier.isStatic(modifiers)
                    && !Modifier.isPublic(modifiers) && !Modifier.isProtected(modifiers));
            for (Method method : inside.getDeclaredMethods()) {
                due("no inner method is called " + method.getName(), !names().contains(method.getName()));
            }
        }
    }
}
