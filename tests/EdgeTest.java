import java.lang.reflect.Method;
import java.lang.reflect.Modifier;
import java.util.ArrayList;
import java.util.Comparator;
import java.util.List;
import java.util.Random;

/** Every call with numbers at the edges, in any order, compared with the Oracle: nothing may ever throw. */
public final class EdgeTest {
    private static final int[] EDGES = {Integer.MIN_VALUE, -1_000_001, -100, -3, -2, -1, 0, 1, 2, 3, 4, 5, 6, 7, 8, 9, 10, 11,
        12, 13, 20, 59, 60, 61, 98, 99, 100, 118, 119, 120, 121, 255, 256, 400, 1022, 1023, 1024, 4094, 4095, 4096, 999_999,
        1_000_000, 1_000_001, Integer.MAX_VALUE};

    public static void main(String[] args) {
        int runs = args.length > 0 ? Integer.parseInt(args[0]) : 150;
        List<Method> calls = new ArrayList<>();
        for (Method method : ThreeColours.class.getDeclaredMethods()) {
            if (Modifier.isPublic(method.getModifiers())) {
                calls.add(method);
            }
        }
        calls.sort(Comparator.comparing(Method::getName));
        for (int run = 0; run < runs; run++) {
            Random random = new Random(run);
            Pair pair = new Pair();
            for (int i = 0; i < 500 && !pair.wrong; i++) {
                Method call = calls.get(random.nextInt(calls.size()));
                Object[] numbers = new Object[call.getParameterCount()];
                int kind = random.nextInt(4);
                for (int j = 0; j < numbers.length; j++) {
                    numbers[j] = kind == 0 ? EDGES[random.nextInt(EDGES.length)]
                            : EDGES[6 + random.nextInt(kind == 1 ? 8 : 3)];
                }
                if (!call.getName().equals("thing") || pair.count(0) < 6) {
                    pair.call(call.getName(), numbers);
                }
            }
            if (pair.wrong) {
                System.out.println("run " + run);
                System.exit(1);
            }
        }
        System.out.println(runs + " runs at the edges");
    }
}
