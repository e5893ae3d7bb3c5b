import java.lang.reflect.Constructor;
import java.lang.reflect.Field;
import java.lang.reflect.Method;
import java.lang.reflect.Modifier;
import java.util.Arrays;
import java.util.Set;
import java.util.TreeSet;

/** The public face of the document: its constructor and methods, and nothing else that is not private. */
public final class FaceTest {
    private static final Due due = new Due();
    static final String[] FACE = {
        "boolean set(int, int, int)", "int get(int, int)", "boolean setRhs(int, int)", "int reduce()", "int rank()",
        "int rrefAt(int, int)", "int transformAt(int, int)", "int det()", "int inverseAt(int, int)",
        "boolean solvable()", "int solution(int)", "int kernelDim()", "int kernelAt(int, int)"};

    public static void main(String[] args) {
        int modifiers = PrimeBench.class.getModifiers();
        due.is("the class is public and final", Modifier.isPublic(modifiers) && Modifier.isFinal(modifiers), true);
        constructors();
        methods();
        fields();
        due.end();
    }

    private static void constructors() {
        Constructor<?>[] all = PrimeBench.class.getDeclaredConstructors();
        due.is("how many constructors", all.length, 1);
        due.is("the constructor is public", Modifier.isPublic(all[0].getModifiers()), true);
        Class<?>[] want = {int.class, int.class, int.class};
        due.is("the constructor takes p, m, n", Arrays.equals(all[0].getParameterTypes(), want), true);
    }

    private static void methods() {
        Set<String> face = new TreeSet<>();
        Set<String> publicNames = new TreeSet<>();
        for (Method method : PrimeBench.class.getDeclaredMethods()) {
            if (!Modifier.isPrivate(method.getModifiers())) {
                face.add(written(method));
                publicNames.add(method.getName());
                boolean plain = Modifier.isPublic(method.getModifiers()) && !Modifier.isStatic(method.getModifiers());
                due.is(method.getName() + " is public and not static", plain, true);
            }
        }
        due.is("the face " + face, face.equals(new TreeSet<>(Arrays.asList(FACE))), true);
        for (Method method : PrimeBench.class.getDeclaredMethods()) {
            boolean bears = Modifier.isPrivate(method.getModifiers()) && publicNames.contains(method.getName());
            due.is("a private method bears the public name " + method.getName(), bears, false);
        }
    }

    private static String written(Method method) {
        StringBuilder text = new StringBuilder();
        text.append(method.getReturnType().getSimpleName()).append(' ').append(method.getName()).append('(');
        for (int k = 0; k < method.getParameterCount(); k++) {
            text.append(k == 0 ? "" : ", ").append(method.getParameterTypes()[k].getSimpleName());
        }
        return text.append(')').toString();
    }

    private static void fields() {
        for (Field field : PrimeBench.class.getDeclaredFields()) {
            int modifiers = field.getModifiers();
            due.is(field.getName() + " is private", Modifier.isPrivate(modifiers), true);
            boolean changing = Modifier.isStatic(modifiers) && !Modifier.isFinal(modifiers);
            due.is(field.getName() + " is static state", changing, false);
        }
    }
}
