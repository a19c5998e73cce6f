import java.lang.reflect.Constructor;
import java.lang.reflect.Field;
import java.lang.reflect.Method;
import java.lang.reflect.Modifier;
import java.util.Arrays;
import java.util.Set;
import java.util.TreeSet;

// The public face is the document's, and there is nothing beside it.
public final class FaceTest {
    private static final String[] FACE = {
        "public int events()",
        "public int alternative(int,int,int)",
        "public int clear()",
        "public int add()",
        "public int apart(int,int,int)",
        "public int remove(int)",
        "public int size()",
        "public int solvable()",
        "public int earliest(int)",
        "public int latest(int)",
        "public int widest(int,int)",
        "public int next(int)",
        "public int meets(int)",
        "public int shortest()",
        "public int entailed()",
        "public int redundant(int)",
        "public int excess()",
    };

    private static int wrong = 0;

    private static void due(String what, Object got, Object want) {
        if (!got.equals(want)) {
            wrong++;
            System.out.println(what + " is " + got + ", due is " + want);
        }
    }

    public static void main(String[] args) {
        Class<?> type = DisjunctiveTimes.class;
        due("class", Modifier.toString(type.getModifiers()), "public final");

        Set<String> methods = new TreeSet<>();
        for (Method method : type.getDeclaredMethods()) {
            if (!Modifier.isPrivate(method.getModifiers())) {
                methods.add(method.toString().replace("DisjunctiveTimes.", ""));
            }
        }
        due("methods", methods, new TreeSet<>(Arrays.asList(FACE)));

        Set<String> constructors = new TreeSet<>();
        for (Constructor<?> constructor : type.getDeclaredConstructors()) {
            constructors.add(constructor.toString());
        }
        due("constructors", constructors, Set.of("public DisjunctiveTimes(int)"));

        for (Field field : type.getDeclaredFields()) {
            due(field.getName() + " private", Modifier.isPrivate(field.getModifiers()), true);
        }

        System.out.println(wrong == 0 ? "the face is as due" : wrong + " faults in the face");
        if (wrong != 0) {
            System.exit(1);
        }
    }
}
