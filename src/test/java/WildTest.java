import java.lang.reflect.InvocationTargetException;
import java.lang.reflect.Method;
import java.lang.reflect.Modifier;
import java.util.ArrayList;
import java.util.Comparator;
import java.util.List;
import java.util.Random;

/** Calls with any arguments in any state: none throws, and the same calls always give the same answers. */
public final class WildTest {
    private static final int[] EDGES = {
        Integer.MIN_VALUE, Integer.MIN_VALUE + 1, Integer.MIN_VALUE + 10, -100, -11, -10, -3, -2, -1, 0, 1, 2, 3, 4, 5, 6,
        7, 8, 9, 10, 11, 12, 13, 14, 15, 16, 20, 24, 29, 30, 31, 32, 40, 63, 64, 99, 100, 255, 256, 299, 300, 301, 998,
        999, 1000, 9999, 10000, 32767, Integer.MAX_VALUE - 10, Integer.MAX_VALUE - 1, Integer.MAX_VALUE};

    public static void main(String[] args) throws IllegalAccessException {
        List<Method> methods = new ArrayList<>();
        for (Method m : OneStepMore.class.getDeclaredMethods()) {
            if (Modifier.isPublic(m.getModifiers())) {
                methods.add(m);
            }
        }
        methods.sort(Comparator.comparing(Method::getName));
        int wrong = 0;
        for (int seed = 0; seed < 300 && wrong == 0; seed++) {
            Random random = new Random(seed);
            Writer writer = new Writer(random);
            OneStepMore x = new OneStepMore();
            OneStepMore y = new OneStepMore();
            for (int i = 0; i < 512 && wrong == 0; i++) {
                if (random.nextInt(12) == 0) {
                    String text = writer.text();
                    text = text.substring(0, Math.min(300, text.length()));
                    Check.tape(x, text);
                    Check.tape(y, text);
                }
                Method m = methods.get(random.nextInt(methods.size()));
                Object[] arguments = new Object[m.getParameterCount()];
                for (int k = 0; k < arguments.length; k++) {
                    arguments[k] = m.getParameterTypes()[k] == boolean.class ? (Object) random.nextBoolean() : any(random);
                }
                wrong += wrong(m, arguments, x, y);
            }
        }
        if (methods.size() != 42) {
            wrong++;
            System.out.println(methods.size() + " methods");
        }
        System.out.println(wrong == 0 ? "nothing throws" : "wrong");
        if (wrong != 0) {
            System.exit(1);
        }
    }

    private static Object any(Random random) {
        switch (random.nextInt(4)) {
            case 0:
                return EDGES[random.nextInt(EDGES.length)];
            case 1:
                return random.nextInt(50) == 0 ? random.nextInt() : random.nextInt(12);
            default:
                return random.nextInt(4);
        }
    }

    private static int wrong(Method m, Object[] arguments, OneStepMore x, OneStepMore y) throws IllegalAccessException {
        try {
            Object got = m.invoke(x, arguments);
            if (got.equals(m.invoke(y, arguments))) {
                return 0;
            }
            System.out.println(m.getName() + " answers otherwise on an object alike");
        } catch (InvocationTargetException e) {
            System.out.println(m.getName() + java.util.Arrays.toString(arguments) + " threw " + e.getCause());
            e.getCause().printStackTrace(System.out);
        }
        return 1;
    }
}
