import java.lang.reflect.Constructor;
import java.lang.reflect.Field;
import java.lang.reflect.Method;
import java.lang.reflect.Modifier;
import java.util.Set;
import java.util.TreeSet;

/** The public face is the document's, and nothing else of the class can be seen from outside. */
public final class FaceTest {
    public static void main(String[] args) {
        Set<String> want = new TreeSet<>(Set.of(
            "int same(int,int,int)", "int other(int,int,int)", "int cell(int,int,int)",
            "int list(int,int,int)", "int drop(int,int)", "int clear(int)", "void swap()",
            "boolean possible(int)", "int divisions(int)", "boolean alwaysSame(int,int,int)",
            "boolean neverSame(int,int,int)", "boolean held(int,int)",
            "boolean reaches(int,int,int)", "int least(int)", "int most(int)",
            "boolean follows()", "boolean contains()", "boolean together()",
            "BAD_ARG", "FULL", "NONE", "new()"));
        Set<String> got = new TreeSet<>();
        for (Method method : ListHeaps.class.getDeclaredMethods()) {
            if (!Modifier.isPrivate(method.getModifiers())) {
                Due.is(method + " is public", method.getModifiers(), Modifier.PUBLIC);
                got.add(method.getReturnType() + " " + method.getName() + types(method.getParameterTypes()));
            }
        }
        for (Field field : ListHeaps.class.getDeclaredFields()) {
            if (!Modifier.isPrivate(field.getModifiers())) {
                Due.is(field + " is a constant", field.getModifiers(),
                    Modifier.PUBLIC | Modifier.STATIC | Modifier.FINAL);
                Due.is(field + " is an int", field.getType() == int.class, true);
                got.add(field.getName());
            }
        }
        for (Constructor<?> constructor : ListHeaps.class.getDeclaredConstructors()) {
            Due.is("the constructor is public", constructor.getModifiers(), Modifier.PUBLIC);
            got.add("new" + types(constructor.getParameterTypes()));
        }
        Due.is("the face " + got + " is " + want, got.equals(want), true);
        Due.is("the class is public and final", ListHeaps.class.getModifiers(),
            Modifier.PUBLIC | Modifier.FINAL);
        Due.is("BAD_ARG", ListHeaps.BAD_ARG, -1);
        Due.is("FULL", ListHeaps.FULL, -2);
        Due.is("NONE", ListHeaps.NONE, -3);
        Due.end();
    }

    private static String types(Class<?>[] types) {
        StringBuilder text = new StringBuilder("(");
        for (Class<?> type : types) {
            text.append(text.length() > 1 ? "," : "").append(type);
        }
        return text.append(")").toString();
    }
}
