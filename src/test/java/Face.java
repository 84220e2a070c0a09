import java.lang.reflect.Method;
import java.util.HashMap;
import java.util.Map;
import java.util.Set;

/** Calls of the face by their names. */
final class Face {

    /** Those that only tell: whatever they answer, nothing is another behind them. */
    private static final Set<String> TELLING = Set.of("of", "ruled", "now", "rest", "pace", "sign", "round", "leads", "found",
        "off", "grid", "worst", "trips", "kindFor", "ease", "fit", "kept", "jump", "jumped", "fits", "led", "part", "stays",
        "ahead", "as", "judge", "count", "status");

    private static final Map<String, Method> METHODS = new HashMap<>();

    static {
        for (Method m : GlassWords.class.getDeclaredMethods()) {
            if (java.lang.reflect.Modifier.isPublic(m.getModifiers())) {
                METHODS.put(m.getName(), m);
            }
        }
    }

    /** One call: its name and its numbers. */
    record Call(String name, int[] numbers) {

        long on(GlassWords x) {
            Method m = METHODS.get(name);
            if (m == null || m.getParameterCount() != numbers.length) {
                throw new IllegalArgumentException("there is no call " + told());
            }
            Object[] boxed = new Object[numbers.length];
            for (int i = 0; i < numbers.length; i++) {
                boxed[i] = numbers[i];
            }
            try {
                return ((Number) m.invoke(x, boxed)).longValue();
            } catch (ReflectiveOperationException e) {
                throw new IllegalStateException(told() + " threw " + e.getCause(), e);
            }
        }

        boolean onlyTells() {
            return TELLING.contains(name);
        }

        /** What seed() and count(6) tell is no finding, whatever it is. */
        boolean isFinding(long answer) {
            boolean tellsZ = name.equals("seed") || name.equals("count") && numbers.length == 1 && numbers[0] == 6;
            return !tellsZ && answer <= Due.BEYOND && answer >= Due.SIZE;
        }

        String told() {
            StringBuilder text = new StringBuilder(name).append('(');
            for (int i = 0; i < numbers.length; i++) {
                text.append(i == 0 ? "" : ", ").append(numbers[i]);
            }
            return text.append(')').toString();
        }
    }

    private Face() {
    }

    static Call call(String name, int... numbers) {
        return new Call(name, numbers);
    }
}
