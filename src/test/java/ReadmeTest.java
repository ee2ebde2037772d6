import java.io.IOException;
import java.lang.reflect.Method;
import java.nio.file.Files;
import java.nio.file.Path;
import java.util.Arrays;
import java.util.regex.Matcher;
import java.util.regex.Pattern;

/** The calls of the example in README.md answer what is said behind them. */
final class ReadmeTest {
    private static final Pattern CALL = Pattern.compile("x\\.(\\w+)\\(([-0-9, ]*)\\);\\s*// (-?\\d+).*");

    private ReadmeTest() {
    }

    public static void main(String[] args) throws IOException, ReflectiveOperationException {
        DedupBlocks x = new DedupBlocks();
        int calls = 0;
        for (String line : Files.readAllLines(Path.of("README.md"))) {
            if (!line.startsWith("x.")) {
                continue;
            }
            Matcher call = CALL.matcher(line);
            Check.that("a call and its answer: " + line, call.matches());
            if (call.matches()) {
                Check.due(line, answer(x, call.group(1), call.group(2)), Long.parseLong(call.group(3)));
                calls++;
            }
        }
        Check.that("README.md has an example", calls > 0);
        Check.end();
    }

    private static int answer(DedupBlocks x, String name, String listed) throws ReflectiveOperationException {
        Object[] arguments = Pattern.compile("-?\\d+").matcher(listed).results()
                .map(number -> (Object) Integer.valueOf(number.group())).toArray();
        Class<?>[] types = new Class<?>[arguments.length];
        Arrays.fill(types, int.class);
        Method method = DedupBlocks.class.getMethod(name, types);
        return (Integer) method.invoke(x, arguments);
    }
}
