import java.lang.reflect.Constructor;
import java.lang.reflect.Field;
import java.lang.reflect.Method;
import java.lang.reflect.Modifier;
import java.util.Set;
import java.util.TreeSet;

/** The public face is the document's, whole, and there is nothing else to be seen (LANGUAGE.md, rules 1 and 5). */
public final class FaceTest {
    private static final Set<String> METHODS = Set.of(
            "int row(int,int,int)", "long weight(int)", "long sum(int)", "long chance(int,int)",
            "long current(int)", "long taken(int,int)", "long flow(int,int)", "int extreme(int)",
            "int queue(int,int,int)", "int ways(int,int)", "int step(int,boolean)", "int set(int,int)",
            "int seed(int)", "int go(int)", "int together(int)", "int at(int)", "int told(int)");

    private static final Check CHECK = new Check();

    public static void main(String[] args) {
        constants();
        classItself();
        methods();
        fields();
        CHECK.end();
    }

    private static void constants() {
        CHECK.due("BAD", -1, OnePlaceEach.BAD);
        CHECK.due("NO", -2, OnePlaceEach.NO);
        CHECK.due("NONE", -4, OnePlaceEach.NONE);
    }

    private static void classItself() {
        int modifiers = OnePlaceEach.class.getModifiers();
        truth("class is public", Modifier.isPublic(modifiers));
        truth("class is final", Modifier.isFinal(modifiers));
        Constructor<?>[] constructors = OnePlaceEach.class.getDeclaredConstructors();
        CHECK.due("constructors", 1, constructors.length);
        truth("constructor is public", Modifier.isPublic(constructors[0].getModifiers()));
        CHECK.due("constructor's parameters", 0, constructors[0].getParameterCount());
        for (Class<?> inside : OnePlaceEach.class.getDeclaredClasses()) {
            truth(inside + " is static", Modifier.isStatic(inside.getModifiers()));
            truth(inside + " is hidden", isHidden(inside.getModifiers()));
        }
    }

    private static void methods() {
        Set<String> open = new TreeSet<>();
        Set<String> openNames = new TreeSet<>();
        for (Method method : OnePlaceEach.class.getDeclaredMethods()) {
            if (Modifier.isPublic(method.getModifiers())) {
                truth(method + " is no static one", !Modifier.isStatic(method.getModifiers()));
                open.add(signature(method));
                openNames.add(method.getName());
            }
        }
        for (String wanted : METHODS) {
            truth("has " + wanted, open.contains(wanted));
        }
        for (String found : open) {
            truth("the document has " + found, METHODS.contains(found));
        }
        for (Method method : OnePlaceEach.class.getDeclaredMethods()) {
            if (!Modifier.isPublic(method.getModifiers())) {
                truth(method + " is private", Modifier.isPrivate(method.getModifiers()));
                truth(method + " has a name of its own", !openNames.contains(method.getName()));
            }
        }
    }

    private static void fields() {
        Set<String> constants = Set.of("BAD", "NO", "NONE");
        for (Field field : OnePlaceEach.class.getDeclaredFields()) {
            boolean isConstant = constants.contains(field.getName());
            int modifiers = field.getModifiers();
            truth(field + " is as visible as told", isConstant ? Modifier.isPublic(modifiers) : Modifier.isPrivate(modifiers));
            truth(field + " is final, if static", !Modifier.isStatic(modifiers) || Modifier.isFinal(modifiers));
        }
    }

    private static String signature(Method method) {
        StringBuilder text = new StringBuilder();
        text.append(method.getReturnType().getName()).append(' ').append(method.getName()).append('(');
        String between = "";
        for (Class<?> parameter : method.getParameterTypes()) {
            text.append(between).append(parameter.getName());
            between = ",";
        }
        return text.append(')').toString();
    }

    private static boolean isHidden(int modifiers) {
        return !Modifier.isPublic(modifiers) && !Modifier.isProtected(modifiers);
    }

    private static void truth(String what, boolean holds) {
        CHECK.due(what, 1, holds ? 1 : 0);
    }
}
