import java.lang.reflect.Constructor;
import java.lang.reflect.Field;
import java.lang.reflect.Method;
import java.lang.reflect.Modifier;
import java.util.Set;
import java.util.TreeSet;

/** The class shows the document's public face and nothing beside it. */
public final class FaceTest {
    private static final Set<String> FACE = Set.of(
        "feed/3", "retract/3", "close/3", "held/1", "heldWith/2", "closed/2", "results/0", "resultKey/1",
        "resultPairs/1", "resultSum/1", "resultLeast/1", "resultGreatest/1", "pairs/1", "sum/1", "least/1",
        "greatest/1", "pairsFrom/1", "bandsFinished/0", "bandSum/1");

    private static int wrong = 0;

    public static void main(String[] args) {
        Class<?> type = PunctuatedQuery.class;
        must(type.getModifiers() == (Modifier.PUBLIC | Modifier.FINAL), "the class is public and final");
        must(type.getSuperclass() == Object.class && type.getInterfaces().length == 0, "the class extends nothing");
        must(type.getDeclaredClasses().length == 0, "no nested class");
        for (Constructor<?> made : type.getDeclaredConstructors()) {
            must(made.getModifiers() == Modifier.PUBLIC && made.getParameterCount() == 0, "one constructor, without parameters");
        }
        for (Field field : type.getDeclaredFields()) {
            checkField(field);
        }
        Set<String> seen = new TreeSet<>();
        for (Method method : type.getDeclaredMethods()) {
            checkMethod(method, seen);
        }
        must(seen.equals(new TreeSet<>(FACE)), "the public methods are those of the document, not " + seen);
        System.out.println(wrong == 0 ? "the face is as due" : wrong + " faults");
        if (wrong != 0) {
            System.exit(1);
        }
    }

    private static void must(boolean holds, String what) {
        if (!holds) {
            wrong++;
            System.out.println("does not hold: " + what);
        }
    }

    private static void checkField(Field field) {
        int marks = field.getModifiers();
        must(Modifier.isPrivate(marks), field.getName() + " is private");
        Class<?> type = field.getType();
        must(type.isPrimitive() || type.getComponentType().isPrimitive(), field.getName() + " is a number or an array of them");
        if (Modifier.isStatic(marks)) {
            must(Modifier.isFinal(marks) && (type == int.class || type == long.class), field.getName() + " is a constant");
        }
    }

    private static void checkMethod(Method method, Set<String> seen) {
        String name = method.getName();
        if (Modifier.isPrivate(method.getModifiers())) {
            must(FACE.stream().noneMatch(face -> face.startsWith(name + "/")), "private " + name + " bears no public name");
            return;
        }
        must(method.getModifiers() == Modifier.PUBLIC, name + " is public alone");
        must(method.getReturnType() == int.class, name + " answers an int");
        for (Class<?> parameter : method.getParameterTypes()) {
            must(parameter == int.class, name + " takes ints");
        }
        seen.add(name + "/" + method.getParameterCount());
    }
}
