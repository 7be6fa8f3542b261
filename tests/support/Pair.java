import java.lang.reflect.Method;
import java.util.ArrayList;
import java.util.HashMap;
import java.util.List;
import java.util.Map;
import java.util.Set;

/** A ThreeColours and an Oracle that get the same calls; what they answer differently is told with the run. */
final class Pair {
    private static final int MOST_CALLS = 512;
    private static final Map<String, Method> FACE = new HashMap<>();
    private static final Map<String, Method> DUE = new HashMap<>();
    private static final Set<String> CHANGING = Set.of("thing", "put", "bloom", "window", "turn", "street", "person",
            "coat", "same", "month", "walk", "row", "law", "force", "take", "back");

    static {
        for (Method method : ThreeColours.class.getDeclaredMethods()) {
            if (java.lang.reflect.Modifier.isPublic(method.getModifiers())) {
                FACE.put(method.getName(), method);
            }
        }
        for (Method method : Oracle.class.getDeclaredMethods()) {
            Method of = FACE.get(method.getName());
            if (of != null && of.getParameterCount() == method.getParameterCount()) {
                DUE.put(method.getName(), method);
            }
        }
    }

    private final ThreeColours it = new ThreeColours();
    private final Oracle oracle = new Oracle();
    final List<String> run = new ArrayList<>();
    boolean wrong;

    /** How many there are, asked of the Oracle: it is no call of the run. */
    int count(int what) {
        return oracle.count(what);
    }

    /** Behind the 512th call nothing is promised: none is made any more. */
    int call(String name, Object... arguments) {
        if (run.size() >= MOST_CALLS) {
            return Integer.MIN_VALUE;
        }
        try {
            int got = (int) FACE.get(name).invoke(it, arguments);
            StringBuilder text = new StringBuilder(name).append('(');
            for (int i = 0; i < arguments.length; i++) {
                text.append(i == 0 ? "" : ", ").append(arguments[i]);
            }
            text.append(") = ").append(got);
            run.add(text.toString());
            int due = (int) DUE.get(name).invoke(oracle, arguments);
            if (CHANGING.contains(name)) {
                oracle.forget();
            }
            if (got != due && !wrong) {
                wrong = true;
                System.out.println("after");
                for (String row : run) {
                    System.out.println("  " + row);
                }
                System.out.println("  due is " + due);
            }
            return got;
        } catch (ReflectiveOperationException failure) {
            wrong = true;
            for (String row : run) {
                System.out.println("  " + row);
            }
            System.out.println(name + " " + java.util.Arrays.toString(arguments) + ": " + failure.getCause());
            if (failure.getCause() != null) {
                failure.getCause().printStackTrace(System.out);
            }
            return Integer.MIN_VALUE;
        }
    }

    /** The TAPE gets this TEXT and no more. */
    void tape(String text) {
        call("end", 0);
        int[] bytes = new int[(text.length() + 19) / 20 * 20];
        for (int i = 0; i < text.length(); i++) {
            bytes[i] = text.charAt(i) & 255;
        }
        for (int i = 0; i < bytes.length; i += 20) {
            Object[] five = new Object[5];
            for (int j = 0; j < 5; j++) {
                int k = i + 4 * j;
                five[j] = bytes[k] << 24 | bytes[k + 1] << 16 | bytes[k + 2] << 8 | bytes[k + 3];
            }
            call("feed", five);
        }
        call("end", text.length());
    }

    int law(String text) {
        tape(text);
        return call("law");
    }
}
