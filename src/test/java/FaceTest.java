import java.lang.reflect.Constructor;
import java.lang.reflect.Field;
import java.lang.reflect.Method;
import java.lang.reflect.Modifier;
import java.util.TreeSet;

/** The public face: the constants, the constructor and the methods of the document, no others. */
public final class FaceTest {
    private static final String[] METHODS = {
        "int type(int)", "int clear()", "int fault()", "int layTrack()", "int set(int,int)",
        "int dig(int)", "int addTrain(int,int)", "int dropTrain(int)", "int setLoad(int,int)",
        "int run(int)", "int undo()", "int keep(int)", "int back(int)", "int segment(int,int)",
        "int train(int,int)", "int why(int)", "int account(int)", "int count(int)",
        "int setting(int)", "int ifRun(int,int)", "int ticksFor(int)", "int bestRule(int)",
        "int bestLoad(int,int)", "double meanSinking()", "long digest()"
    };

    public static void main(String[] args) {
        Due.same(1, "NONE", PeatRailway.NONE, -1);
        Due.same(1, "BAD", PeatRailway.BAD, -2);
        Due.same(1, "STATE", PeatRailway.STATE, -3);
        Due.same(1, "FULL", PeatRailway.FULL, -4);
        classAndFields();
        methods();
        classesInside();
        staticFields(PeatRailway.class);
        for (Class<?> inside : PeatRailway.class.getDeclaredClasses()) {
            staticFields(inside);
        }
        Due.end();
    }

    private static void classAndFields() {
        Class<?> face = PeatRailway.class;
        Due.holds(1, "the class is public and final", Modifier.isPublic(face.getModifiers())
                && Modifier.isFinal(face.getModifiers()));
        TreeSet<String> seen = new TreeSet<>();
        for (Field field : face.getDeclaredFields()) {
            if (!Modifier.isPrivate(field.getModifiers())) {
                seen.add(Modifier.toString(field.getModifiers()) + " " + field.getType() + " "
                        + field.getName());
            }
        }
        Due.holds(1, "the constants alone are seen: " + seen, seen.toString().equals(
                "[public static final int BAD, public static final int FULL, "
                + "public static final int NONE, public static final int STATE]"));
        Constructor<?>[] constructors = face.getDeclaredConstructors();
        Due.holds(1, "there is one constructor, public and without arguments",
                constructors.length == 1 && Modifier.isPublic(constructors[0].getModifiers())
                && constructors[0].getParameterCount() == 0);
    }

    private static void methods() {
        TreeSet<String> due = new TreeSet<>();
        TreeSet<String> names = new TreeSet<>();
        for (String method : METHODS) {
            due.add(method);
            names.add(method.substring(method.indexOf(' ') + 1, method.indexOf('(')));
        }
        TreeSet<String> seen = new TreeSet<>();
        for (Method method : PeatRailway.class.getDeclaredMethods()) {
            if (Modifier.isPrivate(method.getModifiers())) {
                Due.holds(1, "no private method bears the public name " + method.getName(),
                        !names.contains(method.getName()));
                continue;
            }
            Due.holds(1, method.getName() + " is public, no class method and throws nothing",
                    Modifier.isPublic(method.getModifiers())
                    && !Modifier.isStatic(method.getModifiers())
                    && method.getExceptionTypes().length == 0);
            seen.add(written(method));
        }
        Due.holds(1, "the methods are those of the document: " + seen, seen.equals(due));
    }

    private static void classesInside() {
        for (Class<?> inside : PeatRailway.class.getDeclaredClasses()) {
            int modifiers = inside.getModifiers();
            Due.holds(1, inside.getName() + " is static and neither public nor protected",
                    Modifier.isStatic(modifiers) && !Modifier.isPublic(modifiers)
                    && !Modifier.isProtected(modifiers));
        }
    }

    /** Rule 5 of LANGUAGE.md; no double is among the constants that it lists. */
    private static void staticFields(Class<?> owner) {
        for (Field field : owner.getDeclaredFields()) {
            if (Modifier.isStatic(field.getModifiers())) {
                String type = field.getType().getSimpleName();
                Due.holds(0, field.getName() + " is a constant: " + type,
                        Modifier.isFinal(field.getModifiers()) && type.matches(
                        "int|long|boolean|char|String|(int|long|char|byte)\\[\\]"));
            }
        }
    }

    private static String written(Method method) {
        StringBuilder text = new StringBuilder();
        text.append(method.getReturnType()).append(' ').append(method.getName()).append('(');
        Class<?>[] types = method.getParameterTypes();
        for (int i = 0; i < types.length; i++) {
            text.append(i == 0 ? "" : ",").append(types[i]);
        }
        return text.append(')').toString();
    }
}
