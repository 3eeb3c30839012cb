import java.lang.reflect.Constructor;
import java.lang.reflect.Field;
import java.lang.reflect.Method;
import java.lang.reflect.Modifier;
import java.util.TreeSet;

/** The public face: every constant, constructor and method of the document, and nothing else that can be seen. */
public final class FaceTest {
    private static final String[] METHODS = {
        "type(char)", "clearText()", "readLevel()", "readMoves()", "size(int)", "cell(int,int)", "blockAt(int,int)",
        "block(int,int)", "setWeight(int,int)", "setGoal(int,int,int,int)", "clearGoal(int)",
        "setThreshold(int,int)", "setStrength(int)", "load(int)", "isOpen(int)", "moved(int,int)", "move(int,int)",
        "possibleCount()", "possible(int)", "undo()", "redo()", "moveAt(int)", "effort()", "save(int)",
        "restore(int)", "isSolved()", "isDead(int,int,int,int)", "deadCount(int)", "distance(int)", "lowerBound()",
        "solve()", "solution(int)", "reachable(int)"};
    private static final String[] CONSTANTS = {
        "NO_SUCH_BLOCK", "NO_SUCH_CELL", "BAD_VALUE", "NOT_POSSIBLE", "FULL", "GIVEN_UP", "NONE"};

    private static final Check check = new Check();

    public static void main(String[] args) throws ReflectiveOperationException {
        check.due("the class is public and final", Modifier.PUBLIC | Modifier.FINAL, BlockYard.class.getModifiers());
        methods();
        constants();
        constructors();
        classesInside();
        check.end();
    }

    private static void methods() {
        TreeSet<String> seen = new TreeSet<>();
        TreeSet<String> names = new TreeSet<>();
        for (Method method : BlockYard.class.getDeclaredMethods()) {
            int modifiers = method.getModifiers();
            if (Modifier.isPrivate(modifiers)) {
                continue;
            }
            check.due("modifiers of " + method.getName(), Modifier.PUBLIC, modifiers);
            check.due("type of " + method.getName(), "int", method.getReturnType().getName());
            StringBuilder form = new StringBuilder(method.getName()).append("(");
            for (Class<?> type : method.getParameterTypes()) {
                form.append(form.charAt(form.length() - 1) == '(' ? "" : ",").append(type.getName());
            }
            seen.add(form.append(")").toString());
            names.add(method.getName());
        }
        check.due("methods", new TreeSet<>(java.util.List.of(METHODS)).toString(), seen.toString());
        for (Method method : BlockYard.class.getDeclaredMethods()) {
            boolean borrows = Modifier.isPrivate(method.getModifiers()) && names.contains(method.getName());
            check.due("private " + method.getName() + " bears a public name", "false", String.valueOf(borrows));
        }
    }

    private static void constants() throws IllegalAccessException {
        TreeSet<String> seen = new TreeSet<>();
        for (Field field : BlockYard.class.getDeclaredFields()) {
            int modifiers = field.getModifiers();
            if (Modifier.isPrivate(modifiers)) {
                continue;
            }
            check.due("modifiers of " + field.getName(), Modifier.PUBLIC | Modifier.STATIC | Modifier.FINAL, modifiers);
            seen.add(field.getName() + "=" + field.getInt(null));
        }
        TreeSet<String> want = new TreeSet<>();
        for (int k = 0; k < CONSTANTS.length; k++) {
            want.add(CONSTANTS[k] + "=" + (-1 - k));
        }
        check.due("constants", want.toString(), seen.toString());
    }

    private static void constructors() {
        Constructor<?>[] all = BlockYard.class.getDeclaredConstructors();
        check.due("constructors", 1, all.length);
        check.due("the constructor is public", Modifier.PUBLIC, all[0].getModifiers());
        check.due("the constructor's parameters", 0, all[0].getParameterCount());
    }

    private static void classesInside() {
        for (Class<?> inside : BlockYard.class.getDeclaredClasses()) {
            int modifiers = inside.getModifiers();
            boolean hidden = !Modifier.isPublic(modifiers) && !Modifier.isProtected(modifiers);
            check.due(inside + " is hidden", "true", String.valueOf(hidden));
            check.due(inside + " is static", "true", String.valueOf(Modifier.isStatic(modifiers)));
        }
    }
}
