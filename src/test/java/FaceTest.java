import java.lang.reflect.Constructor;
import java.lang.reflect.Field;
import java.lang.reflect.Member;
import java.lang.reflect.Method;
import java.lang.reflect.Modifier;
import java.util.Arrays;
import java.util.Set;
import java.util.TreeSet;

/** The public face of the document, and of LANGUAGE.md what can be seen in the compiled class. */
public final class FaceTest {
    private static final Check check = new Check();
    private static final Class<?> face = LastRunLevel.class;
    private static final String FACE = "The public face";

    public static void main(String[] args) {
        theClass();
        theConstructor();
        theMethods();
        noPublicConstants();
        theFields();
        check.end();
    }

    private static void theClass() {
        check.sentence(FACE, "public final class LastRunLevel");
        check.holds("public and final", face.getModifiers() == (Modifier.PUBLIC | Modifier.FINAL));
        check.holds("no package", face.getPackageName().isEmpty());
        check.holds("no nested class", face.getDeclaredClasses().length == 0);
        check.holds("extends Object alone", face.getSuperclass() == Object.class);
        check.holds("no interface", face.getInterfaces().length == 0);
    }

    private static void theConstructor() {
        check.sentence(FACE, "public LastRunLevel()");
        Constructor<?>[] all = face.getDeclaredConstructors();
        check.holds("one constructor", all.length == 1);
        check.holds("it is public", Modifier.isPublic(all[0].getModifiers()));
        check.holds("it takes nothing", all[0].getParameterCount() == 0);
    }

    private static void theMethods() {
        check.sentence(FACE, "public int feed(int c), finish(), event(int i), count()");
        Set<String> seen = new TreeSet<>();
        Set<String> hidden = new TreeSet<>();
        for (Method method : face.getDeclaredMethods()) {
            if (isPrivate(method)) {
                hidden.add(method.getName());
            } else {
                seen.add(Modifier.toString(method.getModifiers()) + " " + method.getReturnType() + " "
                        + method.getName() + Arrays.toString(method.getParameterTypes()));
            }
        }
        Set<String> want = new TreeSet<>(Arrays.asList(
                "public int feed[int]", "public int finish[]", "public int event[int]", "public int count[]"));
        check.holds("methods " + want + ", found " + seen, seen.equals(want));
        for (String name : new String[] {"feed", "finish", "event", "count"}) {
            check.holds("no private method named " + name, !hidden.contains(name));
        }
    }

    private static void noPublicConstants() {
        check.sentence("What it is", "The class has no public constants.");
        check.holds("no public field", face.getFields().length == 0);
    }

    private static void theFields() {
        check.sentence("LANGUAGE.md, rules 1 and 5", "fields are private, static ones constants of int or long");
        for (Field field : face.getDeclaredFields()) {
            check.holds(field.getName() + " is private", isPrivate(field));
            boolean fixed = Modifier.isFinal(field.getModifiers());
            boolean number = field.getType() == int.class || field.getType() == long.class;
            check.holds(field.getName() + " is a constant if static",
                    !Modifier.isStatic(field.getModifiers()) || fixed && number);
        }
    }

    private static boolean isPrivate(Member member) {
        return Modifier.isPrivate(member.getModifiers());
    }
}
