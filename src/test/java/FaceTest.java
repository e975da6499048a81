import java.lang.reflect.Constructor;
import java.lang.reflect.Field;
import java.lang.reflect.Method;
import java.lang.reflect.Modifier;
import java.util.Set;
import java.util.TreeSet;

/** The class has the document's face and no more, and its fields keep to rules 1, 2 and 5 of LANGUAGE.md. */
public final class FaceTest {
    private static final Set<String> FACE = Set.of(
            "int put(int,int)", "int remove(int)", "int commit()", "int restore(int)", "int drop(int)",
            "int get(int,int)", "int has(int,int)", "int size(int)", "int next(int,int)",
            "int nextChange(int,int,int)", "int changes(int,int)");

    private static int wrong = 0;

    private static void check(boolean holds, String fault) {
        if (!holds) {
            wrong++;
            System.out.println(fault);
        }
    }

    public static void main(String[] args) {
        Class<?> face = SnapshotTree.class;
        check(Modifier.isPublic(face.getModifiers()), "the class is not public");
        check(Modifier.isFinal(face.getModifiers()), "the class is not final");
        check(face.getSuperclass() == Object.class, "the class extends another");
        check(face.getInterfaces().length == 0, "the class implements an interface");
        check(face.getDeclaredClasses().length == 0, "the class has a nested class");
        checkConstructors(face);
        checkMethods(face);
        checkFields(face);
        System.out.println(wrong == 0 ? "the face is the document's" : wrong + " faults in the face");
        if (wrong != 0) {
            System.exit(1);
        }
    }

    private static void checkConstructors(Class<?> face) {
        Constructor<?>[] all = face.getDeclaredConstructors();
        check(all.length == 1, "there is not one constructor but " + all.length);
        for (Constructor<?> one : all) {
            check(Modifier.isPublic(one.getModifiers()), "the constructor is not public");
            check(one.getParameterCount() == 0, "the constructor has parameters");
        }
    }

    private static void checkMethods(Class<?> face) {
        Set<String> found = new TreeSet<>();
        Set<String> publicNames = new TreeSet<>();
        for (Method method : face.getDeclaredMethods()) {
            if (!Modifier.isPrivate(method.getModifiers())) {
                check(method.getModifiers() == Modifier.PUBLIC, method + " is not plainly public");
                found.add(signature(method));
                publicNames.add(method.getName());
            }
        }
        check(found.equals(FACE), "the public methods are " + found);
        for (Method method : face.getDeclaredMethods()) {
            boolean hidden = Modifier.isPrivate(method.getModifiers());
            check(!hidden || !publicNames.contains(method.getName()), method + " bears a public name");
        }
    }

    private static String signature(Method method) {
        StringBuilder text = new StringBuilder(method.getReturnType() + " " + method.getName() + "(");
        String gap = "";
        for (Class<?> type : method.getParameterTypes()) {
            text.append(gap).append(type);
            gap = ",";
        }
        return text.append(")").toString();
    }

    private static void checkFields(Class<?> face) {
        for (Field field : face.getDeclaredFields()) {
            int modifiers = field.getModifiers();
            Class<?> type = field.getType();
            Class<?> plain = type.isArray() ? type.getComponentType() : type;
            check(Modifier.isPrivate(modifiers), field + " is not private");
            check(plain.isPrimitive() && plain != float.class && plain != double.class, field + " has a wrong type");
            if (Modifier.isStatic(modifiers)) {
                check(Modifier.isFinal(modifiers), field + " is static and not a constant");
                check(type == int.class || type == long.class, field + " is static and neither int nor long");
            }
        }
    }
}
