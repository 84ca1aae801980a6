import java.lang.reflect.InvocationTargetException;
import java.lang.reflect.Method;
import java.util.ArrayList;
import java.util.Arrays;
import java.util.Comparator;
import java.util.List;
import java.util.Random;

/**
 * No call may ever throw or fail to end, for any arguments in any state: runs of 512 calls whose arguments are edges
 * and wild numbers, each answer held against the model's.
 */
public final class WildTest {
    private static final int RUNS = 150;
    private static final int CALLS = 512;
    private static final int[] EDGES = {Integer.MIN_VALUE, Integer.MIN_VALUE + 1, -1000000, -65536, -256, -2, -1, 0, 1, 2,
        3, 4, 5, 6, 7, 8, 9, 10, 11, 12, 20, 21, 29, 30, 36, 37, 48, 49, 59, 60, 61, 90, 91, 99, 100, 144, 145, 400, 401,
        600, 601, 719, 720, 9999, 10000, 65536, Integer.MAX_VALUE - 1, Integer.MAX_VALUE};
    private static final int[] WORDS = words();

    private final Random random;
    private final SoupCargo cargo = new SoupCargo();
    private final Model model = new Model();

    private WildTest(int seed) {
        random = new Random(seed);
    }

    public static void main(String[] args) {
        Check check = new Check("WildTest");
        List<Method> methods = new ArrayList<>();
        for (Method method : SoupCargo.class.getDeclaredMethods()) {
            if (method.getModifiers() == java.lang.reflect.Modifier.PUBLIC) {
                methods.add(method);
            }
        }
        // reflection tells no order
        methods.sort(Comparator.comparing(Method::getName));
        check.due("public methods", methods.size(), 30);
        for (int seed = 0; seed < RUNS && check.wrongs() == 0; seed++) {
            new WildTest(seed).run(check, methods, seed);
        }
        check.close();
    }

    /** Twenty bytes that often are words of a text. */
    private static int[] words() {
        String text = "down dry soup sweat1;  wet water 9999*rain/7;  load 3 when can=2; not (1<2) or  1=1 and ;;  ";
        int[] words = new int[text.length() / 4];
        for (int i = 0; i < words.length; i++) {
            for (int at = 4 * i; at < 4 * i + 4; at++) {
                words[i] = words[i] << 8 | text.charAt(at);
            }
        }
        return words;
    }

    private void run(Check check, List<Method> methods, int seed) {
        boolean tame = seed % 2 == 0;
        int lets = 0;
        for (int n = 0; n < CALLS && check.wrongs() == 0; n++) {
            Method method = methods.get(random.nextInt(methods.size()));
            if (method.getName().equals("let") && lets++ > 2) {
                continue;
            }
            Object[] args = new Object[method.getParameterCount()];
            for (int i = 0; i < args.length; i++) {
                boolean isBoolean = method.getParameterTypes()[i] == boolean.class;
                args[i] = isBoolean ? (Object) random.nextBoolean() : (Object) number(method.getName(), tame);
            }
            String told = "seed " + seed + " call " + n + " " + method.getName() + Arrays.toString(args);
            check.due(told, answer(cargo, method, args), answer(model, twinOf(method), args));
        }
    }

    private int number(String name, boolean tame) {
        if (name.equals("feed") && random.nextInt(8) > 0) {
            return WORDS[random.nextInt(WORDS.length)];
        }
        int kind = random.nextInt(tame ? 12 : 4);
        if (kind == 0) {
            return EDGES[random.nextInt(EDGES.length)];
        }
        return kind == 1 ? random.nextInt() >> random.nextInt(32) : random.nextInt(4) - (random.nextInt(6) == 0 ? 1 : 0);
    }

    private static Method twinOf(Method method) {
        try {
            return Model.class.getDeclaredMethod(method.getName(), method.getParameterTypes());
        } catch (NoSuchMethodException e) {
            throw new IllegalStateException(e);
        }
    }

    private static String answer(Object of, Method method, Object[] args) {
        try {
            return method.invoke(of, args).toString();
        } catch (IllegalAccessException e) {
            throw new IllegalStateException(e);
        } catch (InvocationTargetException e) {
            return "by throwing " + e.getCause() + " in " + of.getClass().getName();
        }
    }
}
