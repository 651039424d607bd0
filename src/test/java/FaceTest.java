import java.lang.reflect.Constructor;
import java.lang.reflect.Field;
import java.lang.reflect.Member;
import java.lang.reflect.Method;
import java.lang.reflect.Modifier;
import java.util.Arrays;
import java.util.TreeSet;

/** The public face: the document's constructor and methods, all of them public, and nothing else. */
public final class FaceTest {
    private static final String[] FACE = {
        "letter 1", "land 0", "engine 2", "turn 2", "at 2", "pass 2", "stand 1", "rest 1", "underline 2",
        "fresh 2", "where 1", "plan 3", "await 2", "chase 1", "ever 0", "all 0", "reading 4", "forget 0",
        "fitting 2", "madeUp 0", "liars 0", "clash 1", "sure 0", "pairs 2", "many 0", "more 0", "seeds 2",
        "row 1", "judge 1", "image 0", "on 0", "count 1",
    };

    public static void main(String[] args) {
        Class<?> face = EnginesOnList.class;
        Checks.holds("public final class", Modifier.isPublic(face.getModifiers()) && Modifier.isFinal(face.getModifiers()));
        TreeSet<String> methods = new TreeSet<>();
        TreeSet<String> names = new TreeSet<>();
        for (Method method : face.getDeclaredMethods()) {
            if (!Modifier.isPrivate(method.getModifiers())) {
                methods.add(method.getName() + " " + method.getParameterCount());
                names.add(method.getName());
                Checks.holds(method + " is public, of ints alone", isOfInts(method));
            }
        }
        Checks.due("methods", methods.size(), FACE.length);
        Checks.holds("methods as in the document: " + methods, methods.equals(new TreeSet<>(Arrays.asList(FACE))));
        Constructor<?>[] constructors = face.getDeclaredConstructors();
        Checks.due("constructors", constructors.length, 1);
        Checks.holds("constructor", Modifier.isPublic(constructors[0].getModifiers()) && constructors[0].getParameterCount() == 0);
        for (Field field : face.getDeclaredFields()) {
            privateUnlessMade(field);
        }
        noPrivateNamesake(face, names);
        for (Class<?> inside : face.getDeclaredClasses()) {
            Checks.holds(inside + " is static", Modifier.isStatic(inside.getModifiers()));
            Checks.holds(inside + " is not public", !Modifier.isPublic(inside.getModifiers()));
            noPrivateNamesake(inside, names);
        }
        Checks.end("FaceTest");
    }

    private static boolean isOfInts(Method method) {
        boolean ints = method.getReturnType() == int.class && method.getModifiers() == Modifier.PUBLIC;
        for (Class<?> parameter : method.getParameterTypes()) {
            ints &= parameter == int.class;
        }
        return ints;
    }

    private static void privateUnlessMade(Member member) {
        Checks.holds(member + " is private", Modifier.isPrivate(member.getModifiers()) || member.isSynthetic());
    }

    private static void noPrivateNamesake(Class<?> of, TreeSet<String> names) {
        for (Method method : of.getDeclaredMethods()) {
            boolean isPrivate = Modifier.isPrivate(method.getModifiers());
            Checks.holds(method + " bears no public name", !isPrivate || !names.contains(method.getName()));
        }
    }
}
