import java.lang.reflect.Constructor;
import java.lang.reflect.Field;
import java.lang.reflect.Method;
import java.lang.reflect.Modifier;
import java.util.Arrays;
import java.util.Set;
import java.util.TreeSet;

// The public face of the document, no more and no less, and what reflection can see of LANGUAGE.md.
public final class FaceTest {
    private static int wrong = 0;

    private static void due(String what, Object got, Object want) {
        if (!want.equals(got)) {
            wrong++;
            System.out.println(what + " is " + got + ", due is " + want);
        }
    }

    private static final Set<String> METHODS = new TreeSet<>(Arrays.asList(
        "int insert(int, int)",
        "int delete(int)",
        "int update(int, int, int)",
        "int split(int)",
        "int merge(int)",
        "int truncate(int)",
        "void clearTerms()",
        "int term(int, int, int)",
        "int partitions()",
        "int bound(int)",
        "int rowsIn(int)",
        "int count()",
        "int sum()",
        "int match(int)",
        "int pairs()",
        "int touched()"));

    private static final Set<String> CONSTANTS = new TreeSet<>(Arrays.asList(
        "BAD_KEY", "FULL", "NO_ROW", "BAD_BOUND", "NO_PARTITION"));

    private static String shape(Method m) {
        StringBuilder s = new StringBuilder(m.getReturnType().getName() + " " + m.getName() + "(");
        Class<?>[] types = m.getParameterTypes();
        for (int i = 0; i < types.length; i++) {
            s.append(i == 0 ? "" : ", ").append(types[i].getName());
        }
        return s.append(")").toString();
    }

    private static void methods() {
        Set<String> open = new TreeSet<>();
        Set<String> openNames = new TreeSet<>();
        for (Method m : PartitionPruner.class.getDeclaredMethods()) {
            if (!Modifier.isPrivate(m.getModifiers())) {
                due(m + " is public and not static",
                    Modifier.isPublic(m.getModifiers()) && !Modifier.isStatic(m.getModifiers()), true);
                open.add(shape(m));
                openNames.add(m.getName());
            }
        }
        due("the set of open methods", open, METHODS);
        for (Method m : PartitionPruner.class.getDeclaredMethods()) {
            if (Modifier.isPrivate(m.getModifiers())) {
                due("private " + m.getName() + " bears a public method's name", openNames.contains(m.getName()), false);
                due("parameters of " + m.getName() + " are at most seven", m.getParameterCount() <= 7, true);
            }
        }
    }

    private static void fields() {
        Set<String> open = new TreeSet<>();
        for (Field f : PartitionPruner.class.getDeclaredFields()) {
            int mods = f.getModifiers();
            if (!Modifier.isPrivate(mods)) {
                open.add(f.getName());
                due(f.getName() + " is a public static final int", Modifier.isPublic(mods) && Modifier.isStatic(mods)
                    && Modifier.isFinal(mods) && f.getType() == int.class, true);
            }
            Class<?> type = f.getType().isArray() ? f.getType().getComponentType() : f.getType();
            due(f.getName() + " is of a whole-number type or an array of one",
                type.isPrimitive() && type != float.class && type != double.class, true);
            due(f.getName() + " is no static array", Modifier.isStatic(mods) && f.getType().isArray(), false);
        }
        due("the set of open fields", open, CONSTANTS);
    }

    private static void classAndConstructor() {
        due("the class is public", Modifier.isPublic(PartitionPruner.class.getModifiers()), true);
        due("the class is final", Modifier.isFinal(PartitionPruner.class.getModifiers()), true);
        due("the superclass", PartitionPruner.class.getSuperclass(), Object.class);
        due("the number of interfaces", PartitionPruner.class.getInterfaces().length, 0);
        due("the number of nested classes", PartitionPruner.class.getDeclaredClasses().length, 0);
        Constructor<?>[] all = PartitionPruner.class.getDeclaredConstructors();
        due("the number of constructors", all.length, 1);
        due("the constructor is public", Modifier.isPublic(all[0].getModifiers()), true);
        due("the constructor's parameters", all[0].getParameterCount(), 0);
    }

    private static void constants() {
        due("BAD_KEY", PartitionPruner.BAD_KEY, -1);
        due("FULL", PartitionPruner.FULL, -2);
        due("NO_ROW", PartitionPruner.NO_ROW, -3);
        due("BAD_BOUND", PartitionPruner.BAD_BOUND, -4);
        due("NO_PARTITION", PartitionPruner.NO_PARTITION, -5);
    }

    public static void main(String[] args) {
        classAndConstructor();
        methods();
        fields();
        constants();
        System.out.println(wrong == 0 ? "the face is as due" : wrong + " things of the face are not as due");
        if (wrong != 0) {
            System.exit(1);
        }
    }
}
