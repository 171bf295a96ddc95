import java.lang.reflect.Constructor;
import java.lang.reflect.Field;
import java.lang.reflect.Method;
import java.lang.reflect.Modifier;
import java.util.Arrays;
import java.util.Set;
import java.util.TreeSet;

/** The face that the document tells, and those rules of LANGUAGE.md that can be seen in the compiled class. */
public final class LanguageTest {
    private static final Due DUE = new Due("LanguageTest");
    private static final String[] FACE = {"field(int,int)", "plus(int,int,int)", "times(int,int)", "add(int,int)",
        "clear(int)", "dim(int)", "row(int,int)", "join(int,int,int)", "meet(int,int,int)", "dual(int,int)",
        "has(int,int)", "within(int,int)", "apart(int,int)", "number(int)", "numbered(int,int,int)", "many(int)",
        "over(int,int)", "meeting(int,int,int)", "put(int)", "empty()", "take(int,int)", "least()", "bare()",
        "greedy(int,int)", "image(int,int)", "mapped(int)", "map(int,int)", "kernel(int)", "round(int)",
        "told(int)", "digest()"};

    public static void main(String[] args) {
        face();
        members(SmallSpaces.class);
        for (Class<?> inside : SmallSpaces.class.getDeclaredClasses()) {
            DUE.holds(inside + " is static", Modifier.isStatic(inside.getModifiers()));
            DUE.holds(inside + " is not public", !Modifier.isPublic(inside.getModifiers()));
            members(inside);
        }
        DUE.end();
    }

    private static void face() {
        Class<?> face = SmallSpaces.class;
        DUE.holds("public and final", Modifier.isPublic(face.getModifiers()) && Modifier.isFinal(face.getModifiers()));
        Set<String> methods = new TreeSet<>();
        for (Method method : face.getDeclaredMethods()) {
            if (!Modifier.isPrivate(method.getModifiers())) {
                methods.add(told(method));
                DUE.holds(method + " is public", Modifier.isPublic(method.getModifiers()));
                DUE.holds(method + " is not static", !Modifier.isStatic(method.getModifiers()));
                Class<?> answer = method.getName().equals("digest") ? long.class : int.class;
                DUE.holds(method + " answers " + answer, method.getReturnType() == answer);
            }
        }
        DUE.holds("the face's methods, not " + methods, methods.equals(new TreeSet<>(Arrays.asList(FACE))));
        Set<String> constants = new TreeSet<>();
        for (Field field : face.getDeclaredFields()) {
            if (!Modifier.isPrivate(field.getModifiers())) {
                constants.add(Modifier.toString(field.getModifiers()) + " " + field.getType() + " " + field.getName());
            }
        }
        Set<String> due = new TreeSet<>();
        for (String name : new String[] {"NONE", "UNKNOWN", "OUTSIDE", "STATE", "FULL"}) {
            due.add("public static final int " + name);
        }
        DUE.holds("the face's constants, not " + constants, constants.equals(due));
        Constructor<?>[] made = face.getDeclaredConstructors();
        DUE.holds("one public constructor without parameters", made.length == 1
            && Modifier.isPublic(made[0].getModifiers()) && made[0].getParameterCount() == 0);
    }

    private static String told(Method method) {
        String[] types = Arrays.stream(method.getParameterTypes()).map(Class::getName).toArray(String[]::new);
        return method.getName() + "(" + String.join(",", types) + ")";
    }

    private static void members(Class<?> owner) {
        int fields = 0;
        for (Field field : owner.getDeclaredFields()) {
            boolean still = Modifier.isStatic(field.getModifiers());
            fields += still ? 0 : 1;
            DUE.holds(field + ": static fields are final", !still || Modifier.isFinal(field.getModifiers()));
        }
        DUE.holds(owner + " has at most twenty fields", fields <= 20);
        for (Method method : owner.getDeclaredMethods()) {
            DUE.holds(method + " bears no name of the face", owner == SmallSpaces.class
                && Modifier.isPublic(method.getModifiers()) || !isFaceName(method.getName()));
        }
    }

    private static boolean isFaceName(String name) {
        return Arrays.stream(FACE).anyMatch(call -> call.startsWith(name + "("));
    }
}
