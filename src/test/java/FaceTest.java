import java.lang.reflect.Constructor;
import java.lang.reflect.Field;
import java.lang.reflect.Method;
import java.lang.reflect.Modifier;
import java.util.TreeSet;

/** The public face is the document's, and nothing beside it can be seen from outside. */
public final class FaceTest {
    private static final String[] METHODS = {
        "boolean key(int)", "boolean metre(int,int)", "boolean type(char)", "boolean unit(int)",
        "int bars()", "int breaking(int)", "int byteAt(int)", "int clear()", "int lines(int)",
        "int note(int,int)", "int notes()", "int place()", "int read()", "int width(int)", "int write()",
    };
    private static final String[] CONSTANTS = {
        "BAD=-1", "BARS=-5", "LENGTH=-3", "LONG=-7", "MANY=-6", "PITCH=-4", "SYNTAX=-2",
    };

    public static void main(String[] args) throws IllegalAccessException {
        Check check = new Check("FaceTest");
        check.due("final", Modifier.isFinal(TuneSetter.class.getModifiers()), true);
        check.due("public", Modifier.isPublic(TuneSetter.class.getModifiers()), true);
        check.due("the methods", visibleMethods(), String.join("; ", METHODS));
        check.due("the constants", visibleFields(), String.join("; ", CONSTANTS));
        check.due("constructors", TuneSetter.class.getDeclaredConstructors().length, 1);
        for (Constructor<?> made : TuneSetter.class.getDeclaredConstructors()) {
            check.due("constructor is public", Modifier.isPublic(made.getModifiers()), true);
            check.due("its parameters", made.getParameterCount(), 0);
        }
        for (Class<?> inside : TuneSetter.class.getDeclaredClasses()) {
            check.due(inside + " is static", Modifier.isStatic(inside.getModifiers()), true);
            check.due(inside + " is public", Modifier.isPublic(inside.getModifiers()), false);
            noNameOfTheFace(check, inside);
        }
        check.end();
    }

    private static String visibleMethods() {
        TreeSet<String> found = new TreeSet<>();
        for (Method method : TuneSetter.class.getDeclaredMethods()) {
            if (!Modifier.isPrivate(method.getModifiers())) {
                StringBuilder said = new StringBuilder();
                for (Class<?> type : method.getParameterTypes()) {
                    said.append(said.length() == 0 ? "" : ",").append(type.getName());
                }
                found.add(method.getReturnType().getName() + " " + method.getName() + "(" + said + ")");
            }
        }
        return String.join("; ", found);
    }

    private static String visibleFields() throws IllegalAccessException {
        TreeSet<String> found = new TreeSet<>();
        for (Field field : TuneSetter.class.getDeclaredFields()) {
            if (!Modifier.isPrivate(field.getModifiers())) {
                boolean constant = Modifier.isStatic(field.getModifiers()) && Modifier.isFinal(field.getModifiers());
                found.add(field.getName() + "=" + (constant ? field.getInt(null) : "no constant"));
            }
        }
        return String.join("; ", found);
    }

    private static void noNameOfTheFace(Check check, Class<?> inside) {
        for (Method method : inside.getDeclaredMethods()) {
            for (String known : METHODS) {
                boolean same = known.contains(" " + method.getName() + "(");
                check.due(inside + " bears the name " + method.getName(), same, false);
            }
        }
    }
}
