import java.lang.reflect.Field;
import java.lang.reflect.Member;
import java.lang.reflect.Method;
import java.lang.reflect.Modifier;
import java.util.Arrays;
import java.util.Set;
import java.util.TreeSet;

/** The class shows the public face of the document and nothing else. */
public final class FaceTest {
    private static int wrong = 0;

    public static void main(String[] args) {
        Set<String> due = new TreeSet<>(Arrays.asList(
                "NONE = -1", "FULL = -2",
                "int begin()", "boolean append(int, int)", "int back(int)", "boolean remove(int)",
                "int reads()", "int length(int)", "int overlap(int, int)", "boolean contains(int, int)",
                "int shortest()", "int symbolAt(int)", "int place(int)", "int shortestWithout(int)",
                "int pair(int, int)", "boolean hasReverse(int)"));
        Set<String> face = new TreeSet<>();
        for (Field field : ReadJoiner.class.getDeclaredFields()) {
            if (isShown(field)) {
                face.add(told(field));
            }
        }
        for (Method method : ReadJoiner.class.getDeclaredMethods()) {
            if (isShown(method)) {
                face.add(told(method));
            }
        }
        check("face", face, due);
        check("class", Modifier.toString(ReadJoiner.class.getModifiers()), "public final");
        check("constructors", ReadJoiner.class.getDeclaredConstructors().length, 1);
        check("constructor", ReadJoiner.class.getDeclaredConstructors()[0].toString(), "public ReadJoiner()");
        System.out.println(wrong == 0 ? "the face is as due" : wrong + " parts of the face are not as due");
        if (wrong != 0) {
            System.exit(1);
        }
    }

    private static void check(String what, Object got, Object want) {
        if (!got.equals(want)) {
            wrong++;
            System.out.println(what + ": is " + got + ", due is " + want);
        }
    }

    private static boolean isShown(Member member) {
        return !Modifier.isPrivate(member.getModifiers());
    }

    private static String told(Field field) {
        if (!Modifier.toString(field.getModifiers()).equals("public static final") || field.getType() != int.class) {
            return field.toString();
        }
        try {
            return field.getName() + " = " + field.getInt(null);
        } catch (IllegalAccessException e) {
            return field.toString();
        }
    }

    private static String told(Method method) {
        if (method.getModifiers() != Modifier.PUBLIC) {
            return method.toString();
        }
        String parameters = Arrays.toString(method.getParameterTypes());
        return method.getReturnType() + " " + method.getName()
                + "(" + parameters.substring(1, parameters.length() - 1) + ")";
    }
}
