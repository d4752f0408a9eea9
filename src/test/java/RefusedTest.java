import java.lang.reflect.InvocationTargetException;
import java.lang.reflect.Method;
import java.lang.reflect.Modifier;
import java.util.ArrayList;
import java.util.Arrays;
import java.util.Comparator;
import java.util.List;

/**
 * "A call that throws changes nothing": every method with numbers at and beyond all its bounds, in an
 * object that is new, in one that has some of all, and in one that is full. What is told to change
 * nothing changes nothing when it answers, either.
 */
public final class RefusedTest {
    private static final List<String> CHANGING = Arrays.asList("feed", "carnival", "mock", "spare", "rank", "nights", "undo",
            "perform", "week", "tray", "write", "copy", "image", "restore");
    private static final int[] ONE = {Integer.MIN_VALUE, -2, -1, 0, 1, 2, 3, 4, 5, 6, 7, 9, 10, 11, 17, 18, 60, 61, 99, 100, 200, 201,
        241, 900, 901, 999, 1000, 1001, Integer.MAX_VALUE};
    private static final int[] TWO = {Integer.MIN_VALUE, -1, 0, 1, 3, 4, 5, 9, 10, 18, 31, 100, 201, 511, 1001, Integer.MAX_VALUE};
    private static final int[] THREE = {Integer.MIN_VALUE, -1, 0, 3, 4, 5, 30, 31, Integer.MAX_VALUE};

    public static void main(String[] args) {
        Method[] calls = InsultRow.class.getDeclaredMethods();
        Arrays.sort(calls, Comparator.comparing(Method::getName));
        String[] scenes = {"new", "midway", "full"};
        for (Method call : calls) {
            if (Modifier.isPublic(call.getModifiers())) {
                for (int i = 0; i < Bounds.SCENES.length; i++) {
                    Bounds.says("A call that throws changes nothing: " + call.getName() + ", " + scenes[i]);
                    sweep(Bounds.SCENES[i], call);
                }
            }
        }
        Bounds.end("RefusedTest");
    }

    private static void sweep(Bounds.Scene scene, Method call) {
        List<Bounds.Call> idle = new ArrayList<>();
        for (Object[] with : argumentsOf(call)) {
            Bounds.Call made = x -> invoke(call, x, with);
            String answer = Bounds.answerOf(made, scene.make());
            if (answer.endsWith("Exception")) {
                Bounds.due(call.getName() + Arrays.toString(with) + " throws " + answer + ", that it may",
                        mayThrow(call, answer) ? 1 : 0, 1);
                idle.add(made);
            } else if (isIdle(call, answer)) {
                idle.add(made);
            }
        }
        Bounds.batchLeaves(scene, call.getName() + ", at and beyond its bounds", idle);
    }

    private static boolean isIdle(Method call, String answer) {
        boolean below = answer.startsWith("-");
        boolean refusesByNumber = call.getName().equals("feed") || call.getName().equals("mock");
        return !CHANGING.contains(call.getName()) || refusesByNumber && below;
    }

    private static boolean mayThrow(Method call, String name) {
        for (Class<?> thrown : call.getExceptionTypes()) {
            if (thrown.getSimpleName().equals(name)) {
                return true;
            }
        }
        return false;
    }

    private static long invoke(Method call, InsultRow x, Object[] with) {
        try {
            Object answer = call.invoke(x, with);
            return answer instanceof Number ? ((Number) answer).longValue() : Boolean.TRUE.equals(answer) ? 1 : 0;
        } catch (InvocationTargetException e) {
            throw (RuntimeException) e.getCause();
        } catch (IllegalAccessException e) {
            throw new AssertionError(e);
        }
    }

    private static List<Object[]> argumentsOf(Method call) {
        Class<?>[] types = call.getParameterTypes();
        int[] numbers = types.length < 2 ? ONE : types.length == 2 ? TWO : types.length == 3 ? THREE : new int[] {-1, 0};
        List<Object[]> all = new ArrayList<>();
        all.add(new Object[types.length]);
        for (int i = 0; i < types.length; i++) {
            List<Object[]> longer = new ArrayList<>();
            for (Object[] begun : all) {
                for (int number : numbers) {
                    Object[] with = begun.clone();
                    with[i] = types[i] == boolean.class ? (Object) (number > 0) : types[i] == long.class ? (Object) (long) number
                            : (Object) number;
                    longer.add(with);
                }
            }
            all = longer;
        }
        return all;
    }
}
