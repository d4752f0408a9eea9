import java.io.IOException;
import java.lang.reflect.Method;
import java.nio.file.Files;
import java.nio.file.Path;
import java.util.regex.Matcher;
import java.util.regex.Pattern;

/** What README.md shows is so: its calls answer what stands behind them, its text is one without a fault. */
public final class ReadmeTest {
    private static final Pattern CALL = Pattern.compile("row\\.(\\w+)\\(([^)]*)\\);(?:\\s*// (-?\\d+))?");

    private static int wrong = 0;

    public static void main(String[] args) throws ReflectiveOperationException, IOException {
        String readme = Files.readString(Path.of("README.md"));
        makeCalls(block(readme, "java"));
        tellText(block(readme, "text"));
        nameTests(readme);
        if (wrong != 0) {
            System.exit(1);
        }
    }

    private static void due(String what, Object got, Object want) {
        if (!got.equals(want)) {
            wrong++;
            System.out.println("README.md: " + what + " answered " + got + ", due is " + want);
        }
    }

    private static String block(String readme, String sort) {
        Matcher block = Pattern.compile("(?s)```" + sort + "\n(.*?)```").matcher(readme);
        due("a block of " + sort, block.find(), true);
        return block.group(1);
    }

    private static void makeCalls(String block) throws ReflectiveOperationException {
        InsultRow row = new InsultRow();
        Matcher call = CALL.matcher(block);
        int told = 0;
        while (call.find()) {
            Object answer = make(row, call.group(1), call.group(2).split(", *"));
            if (call.group(3) != null) {
                told++;
                due(call.group(1) + "(" + call.group(2) + ")", answer, Integer.valueOf(call.group(3)));
            }
        }
        due("calls with an answer", told > 3, true);
    }

    private static Object make(InsultRow row, String name, String[] numbers) throws ReflectiveOperationException {
        Class<?>[] types = new Class<?>[numbers.length];
        Object[] with = new Object[numbers.length];
        for (int i = 0; i < numbers.length; i++) {
            types[i] = int.class;
            with[i] = Long.decode(numbers[i]).intValue();
        }
        Method method = InsultRow.class.getMethod(name, types);
        return method.invoke(row, with);
    }

    /** The block names guilds 0 and 1, and tells one of them. */
    private static void tellText(String block) throws ReflectiveOperationException {
        String text = "guild;" + block.replaceAll("(?m);.*$", ";");
        InsultRow row = new InsultRow();
        for (int from = 0; from < text.length(); from += 20) {
            int[] five = new int[5];
            for (int i = 0; i < 20; i++) {
                five[i / 4] = five[i / 4] << 8 | (from + i < text.length() ? text.charAt(from + i) : ' ');
            }
            row.feed(five[0], five[1], five[2], five[3], five[4]);
        }
        due("the text's lines", row.carnival(text.length()), 6);
        due("the text's fault", row.fault(0), 0);
        due("the text's laws", row.count(8) + row.count(9), 2);
    }

    private static void nameTests(String readme) throws IOException {
        try (var files = Files.list(Path.of("src/test/java"))) {
            files.forEach(file -> due("names " + file, readme.contains(file.toString().replace('\\', '/')), true));
        }
    }
}
