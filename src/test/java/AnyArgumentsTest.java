import java.lang.reflect.InvocationTargetException;
import java.lang.reflect.Method;
import java.lang.reflect.Modifier;
import java.util.ArrayList;
import java.util.Comparator;
import java.util.List;
import java.util.Random;

/** Every call with any arguments, far out ones too, in any state: none may throw, and each answers as the model does. */
public final class AnyArgumentsTest {
    private static final int[] EDGES = {
        Integer.MIN_VALUE, Integer.MIN_VALUE + 1, -1000, -3, -2, -1, 0, 1, 2, 3, 4, 5, 6, 7, 8, 9, 10, 11, 14, 15, 19, 20, 31, 32, 33,
        59, 60, 61, 64, 99, 100, 101, 380, 381, 399, 400, 401, 998, 999, 1000, 65536, Integer.MAX_VALUE - 1, Integer.MAX_VALUE
    };
    private static final String[] TEXTS = {
        "roads 2;town;town;town;way 0 1 1;way 1 2 2;way 0 2 2;shop 1 1;sentence 2 40 9;sentence 1 60 4;sentence 0 9 9;walker 9;walker 3",
        "roads 0;town;walker 5", "roads 7", "roads", "roads 3;town;town;shop 0 1;sentence 1 9 9;walker 9;walker 9;walker 9"
    };
    private static final String[] RULES = {"go 1", "go asked+1-sealed", "go", "go due*day/shop if purse>has or not walker=1;go town"};

    private static int wrong = 0;

    private static Object call(Object on, Method m, Object[] args) throws Exception {
        Method mine = on instanceof ProxyWalk ? m : Model.class.getDeclaredMethod(m.getName(), m.getParameterTypes());
        return mine.invoke(on, args);
    }

    private static void tell(ProxyWalk real, Model model, String text) {
        real.end(0);
        model.end(0);
        for (int from = 0; from < text.length(); from += 20) {
            int[] five = new int[5];
            for (int i = 0; i < 20; i++) five[i / 4] = five[i / 4] << 8 | (from + i < text.length() ? text.charAt(from + i) : 0);
            real.feed(five[0], five[1], five[2], five[3], five[4]);
            model.feed(five[0], five[1], five[2], five[3], five[4]);
        }
        real.end(text.length());
        model.end(text.length());
    }

    private static int argument(Random random) {
        int kind = random.nextInt(10);
        return kind < 6 ? random.nextInt(4) : kind < 9 ? EDGES[random.nextInt(EDGES.length)] : random.nextInt();
    }

    private static void run(int seed, List<Method> face) throws Exception {
        Random random = new Random(seed);
        ProxyWalk real = new ProxyWalk();
        Model model = new Model();
        for (int i = 0; i < 700; i++) {
            if (random.nextInt(25) == 0) tell(real, model, TEXTS[random.nextInt(TEXTS.length)]);
            if (random.nextInt(25) == 0) tell(real, model, RULES[random.nextInt(RULES.length)]);
            Method m = face.get(random.nextInt(face.size()));
            Object[] args = new Object[m.getParameterCount()];
            StringBuilder told = new StringBuilder(m.getName());
            for (int k = 0; k < args.length; k++) {
                args[k] = argument(random);
                told.append(' ').append(args[k]);
            }
            try {
                Object got = call(real, m, args);
                Object want = call(model, m, args);
                if (!got.equals(want)) {
                    wrong++;
                    System.out.println("run " + seed + ": " + told + " answered " + got + ", the model says " + want);
                    return;
                }
            } catch (InvocationTargetException e) {
                wrong++;
                System.out.println("run " + seed + ": " + told + " threw " + e.getCause());
                return;
            }
        }
    }

    public static void main(String[] args) throws Exception {
        List<Method> face = new ArrayList<>();
        for (Method m : ProxyWalk.class.getDeclaredMethods()) if (Modifier.isPublic(m.getModifiers())) face.add(m);
        face.sort(Comparator.comparing(Method::getName));
        for (int seed = 0; seed < 400 && wrong < 5; seed++) run(seed, face);
        System.out.println(wrong == 0 ? "no call throws" : wrong + " runs went wrong");
        if (wrong != 0) System.exit(1);
    }
}
