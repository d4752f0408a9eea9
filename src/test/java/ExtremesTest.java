import java.lang.reflect.InvocationTargetException;
import java.lang.reflect.Method;
import java.util.ArrayList;
import java.util.Arrays;
import java.util.Comparator;
import java.util.List;
import java.util.Random;

/** Any arguments in any state: no call throws but what its own line in the document says. */
public final class ExtremesTest {
    private static final int[] INTS = {Integer.MIN_VALUE, Integer.MIN_VALUE + 1, -1000, -101, -100, -2, -1, 0, 1, 2, 3, 4, 5, 6, 7,
        8, 9, 10, 11, 12, 16, 17, 18, 20, 29, 30, 31, 60, 61, 98, 99, 100, 101, 199, 200, 201, 240, 241, 255, 256, 511, 512,
        999, 1000, 1001, 1023, 1024, 65536, Integer.MAX_VALUE - 1, Integer.MAX_VALUE};
    private static final String[] TEXTS = {
        "guild;guild;guild;guild;guild;guild;guild;guild;guild;guild;mocks 0 1;mocks 1 2;mocks 2 0;mocks 3 4;mocks 4 3;mocks 5 0;"
            + "mocks 6 5;mocks 7 6;mocks 8 7;mocks 9 8;answers not [ma*night>999*999*999 or ra<rb] or night=3;may mb<3 or night*night>9;",
        "guild long 9;".repeat(10) + "street east 20;street west 20;".repeat(6) + "answers 1=1;",
        "guild;", "street north 20;", "may 1=1;answers not not not not not not ((((((1))))))=1;", ""};

    private static int wrong = 0;

    public static void main(String[] args) throws IllegalAccessException {
        List<Method> calls = new ArrayList<>(Arrays.asList(InsultRow.class.getDeclaredMethods()));
        calls.removeIf(call -> !java.lang.reflect.Modifier.isPublic(call.getModifiers()));
        calls.sort(Comparator.comparing(Method::getName));
        Random random = new Random(20261118);
        for (int run = 0; run < 400; run++) {
            InsultRow x = new InsultRow();
            tell(x, TEXTS[random.nextInt(TEXTS.length)]);
            for (int i = 0; i < 250; i++) {
                call(x, calls.get(random.nextInt(calls.size())), random);
            }
        }
        if (wrong != 0) {
            System.exit(1);
        }
    }

    private static void tell(InsultRow x, String text) {
        for (int from = 0; from < text.length(); from += 20) {
            int[] five = new int[5];
            for (int i = 0; i < 20; i++) {
                five[i / 4] = five[i / 4] << 8 | (from + i < text.length() ? text.charAt(from + i) : ' ');
            }
            x.feed(five[0], five[1], five[2], five[3], five[4]);
        }
        x.carnival(text.length());
    }

    private static void call(InsultRow x, Method call, Random random) throws IllegalAccessException {
        Object[] with = new Object[call.getParameterCount()];
        boolean small = random.nextBoolean();
        for (int i = 0; i < with.length; i++) {
            Class<?> type = call.getParameterTypes()[i];
            int number = small ? random.nextInt(5) : INTS[random.nextInt(INTS.length)];
            if (type == boolean.class) {
                with[i] = random.nextBoolean();
            } else if (type == long.class) {
                with[i] = random.nextInt(3) == 0 ? random.nextLong() : (long) number;
            } else {
                with[i] = random.nextInt(20) == 0 ? random.nextInt() : number;
            }
        }
        try {
            call.invoke(x, with);
        } catch (InvocationTargetException e) {
            if (!Arrays.asList(call.getExceptionTypes()).contains(e.getCause().getClass())) {
                wrong++;
                System.out.println(call.getName() + Arrays.toString(with) + " threw " + e.getCause());
            }
        }
    }
}
