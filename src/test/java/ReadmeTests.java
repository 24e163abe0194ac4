import java.io.IOException;
import java.lang.reflect.Method;
import java.lang.reflect.Modifier;
import java.nio.file.Files;
import java.nio.file.Path;
import java.util.Set;
import java.util.TreeSet;
import java.util.regex.Matcher;
import java.util.regex.Pattern;

/** The example in README.md uses every call, and each call in it answers what stands beside it. */
public final class ReadmeTests extends Checks {
    private static final Pattern EXAMPLE = Pattern.compile(
            "```java\nSparseKernels x = new SparseKernels\\(\\);\n(.*?)```", Pattern.DOTALL);
    private static final Pattern CALL = Pattern.compile("x\\.(\\w+)\\(([^()]*)\\); +// (\\w+|-\\d+)(: .*)?");

    public static void main(String[] args) throws IOException, ReflectiveOperationException {
        Matcher example = EXAMPLE.matcher(Files.readString(Path.of("README.md")));
        due("README: has an example", example.find(), true);
        SparseKernels x = new SparseKernels();
        Set<String> used = new TreeSet<>();
        for (String line : example.group(1).split("\n")) {
            used.add(call(x, line));
        }
        Set<String> all = new TreeSet<>();
        for (Method method : SparseKernels.class.getDeclaredMethods()) {
            if (Modifier.isPublic(method.getModifiers())) {
                all.add(method.getName());
            }
        }
        due("README: calls in the example", used, all);
        finish();
    }

    private static String call(SparseKernels x, String line) throws ReflectiveOperationException {
        Matcher call = CALL.matcher(line);
        due("README: is a call with its answer: " + line, call.matches(), true);
        String[] places = call.group(2).split(",");
        Class<?>[] types = new Class<?>[places.length];
        Object[] numbers = new Object[places.length];
        for (int n = 0; n < places.length; n++) {
            types[n] = int.class;
            numbers[n] = number(places[n]);
        }
        Object answer = SparseKernels.class.getMethod(call.group(1), types).invoke(x, numbers);
        due("README: " + line, answer.toString(), call.group(3).replace("NONE", "" + NONE));
        return call.group(1);
    }

    /** A number, or a sum of products of numbers as for abc and packed. */
    private static int number(String text) {
        int total = 0;
        for (String part : text.split("\\+")) {
            int product = 1;
            for (String factor : part.split("\\*")) {
                product *= Integer.parseInt(factor.trim());
            }
            total += product;
        }
        return total;
    }
}
