import java.lang.reflect.Constructor;
import java.lang.reflect.Field;
import java.lang.reflect.Method;
import java.lang.reflect.Modifier;
import java.util.Arrays;
import java.util.Set;
import java.util.TreeSet;

/** The public face is the document's, and LANGUAGE.md's rule 1 holds. */
public final class FaceTest {
    private static final String[] METHODS = {
        "int node(long,long)",
        "int street(int,int,int,int)",
        "boolean turn(int,int,int,boolean)",
        "boolean hours(int,int,int)",
        "boolean limit(int,int,long)",
        "boolean deadEnd(int,boolean)",
        "boolean close(int,int,boolean)",
        "int least(int,int,int,int,int)",
        "int way(int)",
        "int begun(int)",
        "int plain(int,int)",
        "int need(int,int)",
        "int joined(int,int)",
        "int pieces()",
        "long span(int)",
    };

    private static final Checks checks = new Checks();

    public static void main(String[] args) {
        checks.due("NONE", StreetSides.NONE, -1);
        int modifiers = StreetSides.class.getModifiers();
        checks.due("public", Modifier.isPublic(modifiers), true);
        checks.due("final", Modifier.isFinal(modifiers), true);
        lookAtMethods();
        lookAtFields();
        lookAtConstructors();
        lookAtClassesInside();
        checks.end();
    }

    private static void lookAtMethods() {
        Set<String> wanted = new TreeSet<>(Arrays.asList(METHODS));
        Set<String> found = new TreeSet<>();
        Set<String> hidden = new TreeSet<>();
        for (Method method : StreetSides.class.getDeclaredMethods()) {
            if (Modifier.isPublic(method.getModifiers())) {
                found.add(described(method));
                checks.due(method + " is static", Modifier.isStatic(method.getModifiers()), false);
            } else if (!method.isSynthetic()) {
                checks.due(method + " is private", Modifier.isPrivate(method.getModifiers()), true);
                hidden.add(method.getName());
            }
        }
        checks.due("the public methods " + found, found.equals(wanted), true);
        for (String one : wanted) {
            String name = one.substring(one.indexOf(' ') + 1, one.indexOf('('));
            checks.due("a private method bears the name " + name, hidden.contains(name), false);
        }
    }

    private static String described(Method method) {
        StringBuilder text = new StringBuilder();
        text.append(method.getReturnType().getName()).append(' ');
        text.append(method.getName()).append('(');
        String comma = "";
        for (Class<?> type : method.getParameterTypes()) {
            text.append(comma).append(type.getName());
            comma = ",";
        }
        return text.append(')').toString();
    }

    private static void lookAtFields() {
        for (Field field : StreetSides.class.getDeclaredFields()) {
            boolean isNone = field.getName().equals("NONE");
            int modifiers = field.getModifiers();
            checks.due(field + " is public", Modifier.isPublic(modifiers), isNone);
            checks.due(field + " is private", Modifier.isPrivate(modifiers), !isNone);
            if (Modifier.isStatic(modifiers)) {
                checks.due(field + " is final", Modifier.isFinal(modifiers), true);
            }
        }
    }

    private static void lookAtConstructors() {
        Constructor<?>[] all = StreetSides.class.getDeclaredConstructors();
        checks.due("constructors", all.length, 1);
        checks.due("the constructor is public", Modifier.isPublic(all[0].getModifiers()), true);
        checks.due("the constructor's parameters", all[0].getParameterCount(), 0);
    }

    private static void lookAtClassesInside() {
        for (Class<?> inside : StreetSides.class.getDeclaredClasses()) {
            int modifiers = inside.getModifiers();
            checks.due(inside + " is static", Modifier.isStatic(modifiers), true);
            checks.due(inside + " is public", Modifier.isPublic(modifiers), false);
            checks.due(inside + " is protected", Modifier.isProtected(modifiers), false);
        }
    }
}
