import java.lang.reflect.Method;
import java.lang.reflect.Modifier;
import java.util.Set;
import java.util.TreeSet;

/** Makes calls that are written out as a text, such as "setGoal(0, 2, 1, 4)" or "type('A')". */
final class Caller {
    private Caller() {
    }

    static int answer(BlockYard yard, String call) {
        int open = call.indexOf('(');
        Method method = method(call.substring(0, open));
        String inside = call.substring(open + 1, call.length() - 1);
        String[] words = inside.isEmpty() ? new String[0] : inside.split(", ");
        Object[] arguments = new Object[words.length];
        for (int k = 0; k < words.length; k++) {
            arguments[k] = words[k].startsWith("'") ? (Object) words[k].charAt(1) : (Object) Integer.valueOf(words[k]);
        }
        try {
            return (Integer) method.invoke(yard, arguments);
        } catch (ReflectiveOperationException e) {
            throw new IllegalStateException(call, e);
        }
    }

    static int parameters(String name) {
        return method(name).getParameterCount();
    }

    static int publicMethods() {
        return names().size();
    }

    static Set<String> names() {
        Set<String> names = new TreeSet<>();
        for (Method method : BlockYard.class.getDeclaredMethods()) {
            if (Modifier.isPublic(method.getModifiers())) {
                names.add(method.getName());
            }
        }
        return names;
    }

    private static Method method(String name) {
        for (Method method : BlockYard.class.getDeclaredMethods()) {
            if (method.getName().equals(name)) {
                return method;
            }
        }
        throw new IllegalArgumentException("no method " + name);
    }
}
