import java.lang.reflect.Constructor;
import java.lang.reflect.Field;
import java.lang.reflect.Method;
import java.lang.reflect.Modifier;
import java.util.Arrays;
import java.util.TreeSet;

/** The public face of the document, and nothing else that is not private. */
public final class FaceTest {
    private static final Checks CHECKS = new Checks("FaceTest");

    public static void main(String[] args) throws ReflectiveOperationException {
        CHECKS.due("the class", FusedPlans.class.getModifiers(), Modifier.PUBLIC | Modifier.FINAL);
        constants();
        constructors();
        methods();
        CHECKS.due("nested classes", FusedPlans.class.getDeclaredClasses().length, 0);
        CHECKS.end();
    }

    private static void constants() throws ReflectiveOperationException {
        TreeSet<String> found = new TreeSet<>();
        for (Field field : FusedPlans.class.getDeclaredFields()) {
            if (!Modifier.isPrivate(field.getModifiers())) {
                found.add(Modifier.toString(field.getModifiers()) + " " + field.getType() + " " + field.getName()
                    + " " + field.get(null));
            }
        }
        TreeSet<String> due = new TreeSet<>();
        String[] names = {"BAD_TABLE", "NO_ROOM", "BAD_NODE", "USED", "BAD_COLUMN", "BAD_KIND", "BAD_WIDTH", "OVERFLOW"};
        for (int i = 0; i < names.length; i++) {
            due.add("public static final int " + names[i] + " " + (-1 - i));
        }
        CHECKS.due("constants", found, due);
    }

    private static void constructors() {
        Constructor<?>[] found = FusedPlans.class.getDeclaredConstructors();
        CHECKS.due("constructors", Arrays.toString(found), "[public FusedPlans()]");
    }

    private static void methods() {
        TreeSet<String> found = new TreeSet<>();
        TreeSet<String> hidden = new TreeSet<>();
        for (Method method : FusedPlans.class.getDeclaredMethods()) {
            if (Modifier.isPrivate(method.getModifiers())) {
                hidden.add(method.getName());
            } else {
                found.add(Modifier.toString(method.getModifiers()) + " " + method.getReturnType() + " "
                    + method.getName() + " " + Arrays.toString(method.getParameterTypes()));
            }
        }
        TreeSet<String> due = new TreeSet<>();
        due.add("public void clearPlan []");
        String[] names = {"insert 4", "empty 1", "scan 1", "filter 4", "extend 4", "pick 4", "join 4", "semi 4",
            "anti 4", "group 4", "distinct 1", "union 2", "run 1", "width 0", "cell 2"};
        for (String name : names) {
            String[] parts = name.split(" ");
            Object[] types = new Object[Integer.parseInt(parts[1])];
            Arrays.fill(types, int.class);
            due.add("public int " + parts[0] + " " + Arrays.toString(types));
            CHECKS.due("a private method named " + parts[0], hidden.contains(parts[0]), false);
        }
        CHECKS.due("methods", found, due);
    }
}
