import java.io.IOException;
import java.lang.reflect.Method;
import java.lang.reflect.Modifier;
import java.nio.file.Files;
import java.nio.file.Path;
import java.util.Arrays;
import java.util.List;
import java.util.regex.Matcher;
import java.util.regex.Pattern;

/**
 * README.md says what is so: each call of its example answers what stands beside it, and its table has every call.
 * It is run from the project's directory, as .ci/run does.
 */
public final class ReadmeTest {
    private static final Pattern EXAMPLE = Pattern.compile("c\\.(\\w+)\\(([^)]*)\\);\\s*// (-?\\w+).*");
    private static final String START = "VipCache c = new VipCache();";

    private static int wrong = 0;

    private static void tell(String what) {
        wrong++;
        System.out.println("README.md: " + what);
    }

    private static Object[] numbers(String list) {
        return Arrays.stream(list.split(",")).map(String::trim).filter(s -> !s.isEmpty()).map(Integer::valueOf).toArray();
    }

    private static Method method(String name) {
        for (Method m : VipCache.class.getDeclaredMethods()) {
            if (Modifier.isPublic(m.getModifiers()) && m.getName().equals(name)) {
                return m;
            }
        }
        throw new IllegalArgumentException("no call " + name);
    }

    private static int meaning(String answer) throws ReflectiveOperationException {
        return Character.isLetter(answer.charAt(0)) ? VipCache.class.getField(answer).getInt(null) : Integer.parseInt(answer);
    }

    private static void runExample(List<String> lines) throws ReflectiveOperationException {
        VipCache c = new VipCache();
        int calls = 0;
        for (int i = lines.indexOf(START) + 1; !lines.get(i).startsWith("```"); i++) {
            Matcher line = EXAMPLE.matcher(lines.get(i));
            if (!line.matches()) {
                tell("not a call with its answer: " + lines.get(i));
                continue;
            }
            calls++;
            Object got = method(line.group(1)).invoke(c, numbers(line.group(2)));
            if (!got.equals(meaning(line.group(3)))) {
                tell("the class answers " + got + " to: " + lines.get(i));
            }
        }
        if (calls == 0) {
            tell("the example has no call");
        }
    }

    private static void findEveryCall(List<String> lines) {
        for (Method m : VipCache.class.getDeclaredMethods()) {
            boolean open = Modifier.isPublic(m.getModifiers());
            String call = "`" + m.getName() + "(";
            if (open && lines.stream().noneMatch(line -> line.startsWith("| ") && line.contains(call))) {
                tell("the table lacks " + m.getName());
            }
        }
    }

    public static void main(String[] args) throws IOException, ReflectiveOperationException {
        List<String> lines = Files.readAllLines(Path.of("README.md"));
        if (lines.contains(START)) {
            runExample(lines);
        } else {
            tell("there is no example");
        }
        findEveryCall(lines);
        if (wrong != 0) {
            System.exit(1);
        }
    }
}
