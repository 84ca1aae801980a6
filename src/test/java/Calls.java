import java.lang.reflect.InvocationTargetException;
import java.lang.reflect.Method;
import java.util.Arrays;

/** Calls by their names; true counts 1 and false 0, in arguments and in answers. */
final class Calls {
    private Calls() {
    }

    static int answer(SoupCargo cargo, String name, int... args) {
        for (Method method : SoupCargo.class.getMethods()) {
            if (method.getName().equals(name)) {
                return answer(cargo, method, args);
            }
        }
        throw new IllegalArgumentException(name);
    }

    private static int answer(SoupCargo cargo, Method method, int[] args) {
        Class<?>[] types = method.getParameterTypes();
        Object[] values = new Object[args.length];
        for (int i = 0; i < args.length; i++) {
            values[i] = types[i] == boolean.class ? (Object) (args[i] == 1) : (Object) args[i];
        }
        try {
            Object answer = method.invoke(cargo, values);
            return answer instanceof Boolean ? ((Boolean) answer ? 1 : 0) : (Integer) answer;
        } catch (IllegalAccessException | InvocationTargetException e) {
            throw new IllegalStateException(method.getName() + Arrays.toString(args), e);
        }
    }
}
