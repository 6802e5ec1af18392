import java.io.IOException;
import java.lang.reflect.InvocationTargetException;
import java.lang.reflect.Method;
import java.lang.reflect.Modifier;
import java.nio.file.DirectoryStream;
import java.nio.file.Files;
import java.nio.file.Path;
import java.util.regex.Matcher;
import java.util.regex.Pattern;

/** README.md tells what is so: the answers of its example, all calls, all tests. */
public final class ReadmeTest {
    private static final Due DUE = new Due();
    private static final Pattern CALL = Pattern.compile("(?m)^x\\.(\\w+)\\((.*)\\);(?: *// (-?\\d+))?");

    public static void main(String[] args) throws IOException {
        String readme = Files.readString(Path.of("README.md"));
        example(readme);
        calls(readme);
        tests(readme);
        DUE.end();
    }

    private static void example(String readme) {
        BathOrders x = new BathOrders();
        Matcher line = CALL.matcher(readme);
        int lines = 0;
        while (line.find()) {
            lines++;
            DUE.yes(line.group() + " has its answer", line.group(3) != null);
            if (line.group(3) != null) {
                long want = Long.parseLong(line.group(3));
                DUE.same(line.group(1) + "(" + line.group(2) + ")", want, answer(x, line.group(1), line.group(2)));
            }
        }
        DUE.yes("the example has calls", lines >= 10);
    }

    private static long answer(BathOrders x, String name, String arguments) {
        String[] words = arguments.isEmpty() ? new String[0] : arguments.split(", *");
        Object[] numbers = new Object[words.length];
        for (int i = 0; i < words.length; i++) {
            numbers[i] = Integer.decode(words[i]);
        }
        try {
            return ((Number) face(name).invoke(x, numbers)).longValue();
        } catch (IllegalAccessException | InvocationTargetException e) {
            throw new IllegalStateException(name + "(" + arguments + ")", e);
        }
    }

    private static Method face(String name) {
        for (Method method : BathOrders.class.getDeclaredMethods()) {
            if (Modifier.isPublic(method.getModifiers()) && method.getName().equals(name)) {
                return method;
            }
        }
        throw new IllegalStateException("the face has no " + name);
    }

    /** Each call stands in the first column of one row, with as many arguments as it takes. */
    private static void calls(String readme) {
        int told = 0;
        Matcher row = Pattern.compile("(?m)^\\| (`[^|]*) \\|").matcher(readme);
        while (row.find()) {
            Matcher call = Pattern.compile("`(\\w+)\\(([^)]*)\\)`").matcher(row.group(1));
            while (call.find()) {
                told++;
                int arguments = call.group(2).isEmpty() ? 0 : call.group(2).split(",").length;
                DUE.same("arguments of " + call.group(), face(call.group(1)).getParameterCount(), arguments);
            }
        }
        int due = 0;
        for (Method method : BathOrders.class.getDeclaredMethods()) {
            if (Modifier.isPublic(method.getModifiers())) {
                due++;
                DUE.yes("a row has " + method.getName(), readme.contains("`" + method.getName() + "("));
            }
        }
        DUE.same("calls told", due, told);
    }

    private static void tests(String readme) throws IOException {
        try (DirectoryStream<Path> files = Files.newDirectoryStream(Path.of("src/test/java"), "*Test.java")) {
            for (Path file : files) {
                String name = file.getFileName().toString().replace(".java", "");
                DUE.yes("a row has " + name, readme.contains("\n| `" + name + "` |"));
            }
        }
    }
}
