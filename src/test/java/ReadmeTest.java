import java.io.IOException;
import java.lang.reflect.Method;
import java.nio.file.Files;
import java.nio.file.Path;
import java.util.Arrays;
import java.util.Set;
import java.util.TreeSet;
import java.util.regex.Matcher;
import java.util.regex.Pattern;

// Each call of README.md's example answers what stands beside it, and the
// example leaves out no method of the class.
public final class ReadmeTest {
    private static final Pattern CALL =
        Pattern.compile("watch\\.(\\w+)\\(([-0-9, ]*)\\);\\s*// (-?\\d+)(:.*)?");

    private static final Set<String> called = new TreeSet<>();
    private static int wrong = 0;

    private static void fault(String what) {
        wrong++;
        System.out.println(what);
    }

    public static void main(String[] args) throws IOException {
        VoteWatch watch = new VoteWatch();
        boolean inExample = false;
        for (String line : Files.readAllLines(Path.of("README.md"))) {
            if (line.startsWith("```")) {
                inExample = line.equals("```java");
            } else if (inExample && !line.equals("VoteWatch watch = new VoteWatch();")) {
                check(watch, line);
            }
        }
        for (Method method : VoteWatch.class.getMethods()) {
            boolean own = method.getDeclaringClass() == VoteWatch.class;
            if (own && !called.contains(method.getName())) {
                fault("the example has no call of " + method.getName());
            }
        }
        System.out.println(wrong == 0 ? "the example answers as README.md says"
            : wrong + " faults in the example");
        if (wrong != 0) {
            System.exit(1);
        }
    }

    private static void check(VoteWatch watch, String line) {
        Matcher call = CALL.matcher(line);
        if (!call.matches()) {
            fault("not a call with its answer: " + line);
            return;
        }
        called.add(call.group(1));
        try {
            int got = answer(watch, call.group(1), numbers(call.group(2)));
            if (got != Integer.parseInt(call.group(3))) {
                fault("answered " + got + ": " + line);
            }
        } catch (ReflectiveOperationException thrown) {
            fault(thrown + ": " + line);
        }
    }

    private static Object[] numbers(String list) {
        if (list.isBlank()) {
            return new Object[0];
        }
        return Arrays.stream(list.split(",")).map(n -> Integer.valueOf(n.trim())).toArray();
    }

    private static int answer(VoteWatch watch, String name, Object[] numbers)
            throws ReflectiveOperationException {
        Class<?>[] types = new Class<?>[numbers.length];
        Arrays.fill(types, int.class);
        return (int) VoteWatch.class.getMethod(name, types).invoke(watch, numbers);
    }
}
