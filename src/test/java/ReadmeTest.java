import java.io.IOException;
import java.lang.reflect.Method;
import java.lang.reflect.Modifier;
import java.nio.file.Files;
import java.nio.file.Path;
import java.util.ArrayList;
import java.util.Arrays;
import java.util.List;
import java.util.Map;
import java.util.regex.Matcher;
import java.util.regex.Pattern;

/** README.md's example, line by line, on one object: each call answers what the page says; the page tells every call. */
public final class ReadmeTest {
    private static final Path PAGE = Path.of("README.md");
    private static final String HELPER = "static void write(";
    private static final Pattern MADE = Pattern.compile("NamedNext x = new NamedNext\\(\\);");
    private static final Pattern WRITTEN = Pattern.compile("write\\(x, \"([^\"]*)\"\\);");
    private static final Pattern CALLED = Pattern.compile("x\\.(\\w+)\\(([\\d, ]*)\\);\\s+// ([A-Z]+|\\d+): .*");
    private static final Map<String, Integer> CONSTANTS = Map.of("NONE", NamedNext.NONE, "UNKNOWN", NamedNext.UNKNOWN,
        "OUTSIDE", NamedNext.OUTSIDE, "NOT", NamedNext.NOT, "FULL", NamedNext.FULL);
    private static int wrong;
    private static int calls;
    private static NamedNext x;

    private static void must(boolean holds, String what) {
        if (!holds) {
            wrong++;
            System.out.println("README.md: " + what);
        }
    }

    private static void followLine(String line) throws ReflectiveOperationException {
        Matcher written = WRITTEN.matcher(line);
        Matcher called = CALLED.matcher(line);
        if (MADE.matcher(line).matches()) {
            x = new NamedNext();
        } else if (written.matches()) {
            for (char letter : written.group(1).toCharArray()) {
                x.write(letter);
            }
        } else if (called.matches()) {
            calls++;
            String want = called.group(3);
            long due = CONSTANTS.containsKey(want) ? CONSTANTS.get(want) : Long.parseLong(want);
            long got = answer(called.group(1), called.group(2));
            must(got == due, line + " answered " + got);
        } else {
            must(line.isBlank(), "this line is not understood: " + line);
        }
    }

    private static long answer(String name, String numbers) throws ReflectiveOperationException {
        List<Object> arguments = new ArrayList<>();
        for (String number : numbers.isBlank() ? new String[0] : numbers.split(", ")) {
            arguments.add(Integer.valueOf(number));
        }
        Class<?>[] types = new Class<?>[arguments.size()];
        Arrays.fill(types, int.class);
        Method method = NamedNext.class.getMethod(name, types);
        return ((Number) method.invoke(x, arguments.toArray())).longValue();
    }

    /** Every call stands in the page with its parameters' names, every constant with its number. */
    private static void tellsAll(String page) {
        for (Method method : NamedNext.class.getDeclaredMethods()) {
            if (Modifier.isPublic(method.getModifiers())) {
                String told = "`" + method.getName() + "\\((\\w+(, \\w+){" + (method.getParameterCount() - 1) + "})\\)`";
                String bare = "`" + method.getName() + "\\(\\)`";
                String pattern = method.getParameterCount() == 0 ? bare : told;
                must(Pattern.compile(pattern).matcher(page).find(), method.getName() + " is not told");
            }
        }
        for (Map.Entry<String, Integer> constant : CONSTANTS.entrySet()) {
            must(page.contains("`" + constant.getKey() + "` (" + constant.getValue() + ")"),
                constant.getKey() + " is not told with its number");
        }
    }

    public static void main(String[] args) throws IOException, ReflectiveOperationException {
        String page = Files.readString(PAGE);
        Matcher block = Pattern.compile("(?s)```java\n(.*?)```").matcher(page);
        while (block.find()) {
            if (!block.group(1).startsWith(HELPER)) {
                for (String line : block.group(1).split("\n")) {
                    followLine(line);
                }
            }
        }
        must(calls > 20, "only " + calls + " calls were found in its example");
        tellsAll(page);
        System.out.println(wrong == 0 ? "the page tells what the class answers" : wrong + " lines of the page are wrong");
        if (wrong != 0) {
            System.exit(1);
        }
    }
}
