import java.io.IOException;
import java.lang.reflect.Constructor;
import java.lang.reflect.Field;
import java.lang.reflect.Method;
import java.lang.reflect.Modifier;
import java.nio.file.Files;
import java.nio.file.Path;
import java.util.Arrays;
import java.util.List;
import java.util.Map;
import java.util.Set;
import java.util.TreeMap;
import java.util.TreeSet;
import java.util.regex.Matcher;
import java.util.regex.Pattern;

/**
 * What of LANGUAGE.md a program can look at: the face, forbidden words, the library's functions, static state, the
 * length of methods, how deep calls go, which of them call themselves.
 */
public final class RulesTest {
    private static final Path SOURCE = Path.of("src/main/java/NamedNext.java");
    private static final Path DOCUMENT = Path.of("../shared/DOC.md");
    private static final List<String> FACE = List.of(
        "int write(int)", "int erase()", "int fault()", "int library()", "int reader(int,int)", "int book(int,int)",
        "int as(int,int)", "int may(int,int)", "int name(int,int)", "int day()", "int undo()", "int keep(int)",
        "int back(int)", "int longest(int,int)", "int row(int,int)", "int shortest(int)", "int can(int)",
        "int all(int)", "int fame(int)", "long mean(int,int)", "long odds(int,int,int)", "int turns(int,int)",
        "int clubs(int)", "int meet(int,int)", "int slip(int,int)", "int burn()", "int forged(int)", "int holder()",
        "int count(int)");
    private static final List<String> CONSTANTS = List.of("NONE", "UNKNOWN", "OUTSIDE", "NOT", "FULL");
    private static final Set<String> LIBRARY = Set.of("Arrays.fill", "Integer.bitCount", "Math.max", "Math.min",
        "System.arraycopy");
    private static final int LONGEST_METHOD = 60, DEEPEST_CALL = 8;
    private static int wrong;

    private static void must(boolean holds, String what) {
        if (!holds) {
            wrong++;
            System.out.println("rules: " + what);
        }
    }

    private static String signature(Method method) {
        StringBuilder types = new StringBuilder();
        for (Class<?> type : method.getParameterTypes()) {
            types.append(types.length() == 0 ? "" : ",").append(type.getSimpleName());
        }
        return method.getReturnType().getSimpleName() + " " + method.getName() + "(" + types + ")";
    }

    private static void face() {
        Class<?> c = NamedNext.class;
        must(Modifier.isPublic(c.getModifiers()) && Modifier.isFinal(c.getModifiers()), "the class is public, final");
        Set<String> open = new TreeSet<>();
        for (Method method : c.getDeclaredMethods()) {
            if (!Modifier.isPrivate(method.getModifiers())) {
                must(Modifier.isPublic(method.getModifiers()) && !Modifier.isStatic(method.getModifiers()),
                    method + " is public");
                open.add(signature(method));
            }
        }
        must(open.equals(new TreeSet<>(FACE)), "the methods are the document's, not " + open);
        for (Field field : c.getDeclaredFields()) {
            boolean constant = CONSTANTS.contains(field.getName());
            must(constant ? Modifier.isPublic(field.getModifiers()) : Modifier.isPrivate(field.getModifiers()),
                field + " is as open as the document says");
        }
        Constructor<?>[] constructors = c.getDeclaredConstructors();
        must(constructors.length == 1 && Modifier.isPublic(constructors[0].getModifiers())
            && constructors[0].getParameterCount() == 0, "one public constructor");
    }

    /** The face that is tested here is the document's, as long as that is at hand. */
    private static void faceOfTheDocument() throws IOException {
        if (!Files.exists(DOCUMENT)) {
            System.out.println("no document at " + DOCUMENT + ": its face is not looked at");
            return;
        }
        Matcher block = Pattern.compile("(?s)## The public face\\s+```java\n(.*?)```").matcher(
            Files.readString(DOCUMENT));
        must(block.find(), "the document tells a face");
        Set<String> told = new TreeSet<>();
        Matcher method = Pattern.compile("public (int|long) (\\w+)\\(([^)]*)\\);").matcher(block.group(1));
        while (method.find()) {
            told.add(method.group(1) + " " + method.group(2) + "("
                + method.group(3).replaceAll(" \\w+(,|$)", "$1").replace(" ", "") + ")");
        }
        must(told.equals(new TreeSet<>(FACE)), "the document's face is " + told);
        Matcher constant = Pattern.compile("([A-Z]+) = (-\\d+)").matcher(block.group(1));
        Map<String, Integer> values = Map.of("NONE", NamedNext.NONE, "UNKNOWN", NamedNext.UNKNOWN,
            "OUTSIDE", NamedNext.OUTSIDE, "NOT", NamedNext.NOT, "FULL", NamedNext.FULL);
        int constants = 0;
        while (constant.find()) {
            constants++;
            must(Integer.valueOf(constant.group(2)).equals(values.get(constant.group(1))),
                constant.group() + " is a constant of the class");
        }
        must(constants == values.size(), "the document has " + constants + " constants");
    }

    private static void classesInside() {
        Class<?>[] inside = NamedNext.class.getDeclaredClasses();
        must(inside.length <= 11, "some twelve classes at most");
        Set<String> names = new TreeSet<>();
        for (String one : FACE) {
            names.add(one.substring(one.indexOf(' ') + 1, one.indexOf('(')));
        }
        for (Class<?> c : inside) {
            must(Modifier.isStatic(c.getModifiers()), c + " is static");
            for (Method method : c.getDeclaredMethods()) {
                must(!names.contains(method.getName()), method + " bears no public one's name");
            }
        }
        for (Class<?> c : withOuter(inside)) {
            int fields = 0;
            for (Field field : c.getDeclaredFields()) {
                if (Modifier.isStatic(field.getModifiers())) {
                    must(Modifier.isFinal(field.getModifiers()), field + " is final");
                } else {
                    fields++;
                }
            }
            must(fields <= 20, c + " has some twenty fields at most");
            for (Method method : c.getDeclaredMethods()) {
                must(method.getParameterCount() <= 7, method + " takes at most seven parameters");
            }
        }
    }

    private static List<Class<?>> withOuter(Class<?>[] inside) {
        Class<?>[] all = Arrays.copyOf(inside, inside.length + 1);
        all[inside.length] = NamedNext.class;
        return Arrays.asList(all);
    }

    private static void source() throws IOException {
        String whole = Files.readString(SOURCE);
        for (int i = 0; i < whole.length(); i++) {
            must(whole.charAt(i) < 128, "a letter beyond 127 at " + i);
        }
        String code = whole.replaceAll("(?s)/\\*.*?\\*/", "").replaceAll("//[^\n]*", "");
        Matcher forbidden = Pattern.compile("\\b(throw|throws|try|catch|synchronized|assert|package|hashCode|System\\.(?!"
            + "arraycopy)\\w+|Random|Thread|\\w+Exact|double|float)\\b|->|::").matcher(code);
        while (forbidden.find()) {
            must(false, "'" + forbidden.group() + "' stands in the source");
        }
        Matcher imports = Pattern.compile("import ([^;]+);").matcher(code);
        while (imports.find()) {
            must(Set.of("java.util.Arrays", "java.util.ArrayList", "java.util.List").contains(imports.group(1)),
                "import of " + imports.group(1));
        }
        Matcher function = Pattern.compile("\\b([A-Z]\\w*\\.\\w+)\\(").matcher(code);
        while (function.find()) {
            must(LIBRARY.contains(function.group(1)), function.group(1) + " is a function that the class may use");
        }
        lengths(code);
        calls(code);
    }

    private static void lengths(String code) {
        String[] lines = code.split("\n");
        int begun = -1;
        String indent = "";
        for (int i = 0; i < lines.length; i++) {
            Matcher head = Pattern.compile("^( {4}| {8})[\\w\\[\\] ]+\\([^;=]*\\{$").matcher(lines[i]);
            if (head.find()) {
                begun = i;
                indent = head.group(1);
            } else if (begun >= 0 && lines[i].equals(indent + "}")) {
                must(i - begun < LONGEST_METHOD, "long method: " + lines[begun].trim());
                begun = -1;
            }
        }
    }

    /** By the methods' names, like ones taken together: so what is found here is no less deep than what there is. */
    private static void calls(String code) {
        Map<String, String> bodies = new TreeMap<>();
        Matcher method = Pattern.compile("(?ms)^( {4}| {8})(?! )([\\w\\[\\] ]*?)(\\w+)\\([^;={]*\\{\n(.*?)^\\1\\}")
            .matcher(code);
        while (method.find()) {
            String name = method.group(3);
            bodies.merge(name, method.group(4), String::concat);
            if (calledIn(method.group(4), Set.of(name)).contains(name)) {
                must(method.group(2).startsWith("private static "), name + ", which calls itself, is private, static");
            }
        }
        must(bodies.keySet().containsAll(Set.of("write", "count", "foretell", "ringsThrough", "hasRing")),
            "the methods are found: " + bodies.keySet());
        for (String name : bodies.keySet()) {
            int deep = depthOf(name, bodies, 0);
            must(deep <= DEEPEST_CALL, name + " goes " + deep + " calls deep");
        }
    }

    private static int depthOf(String name, Map<String, String> bodies, int above) {
        int below = 0;
        for (String called : above > bodies.size() ? Set.<String>of() : calledIn(bodies.get(name), bodies.keySet())) {
            if (!called.equals(name)) {
                below = Math.max(below, depthOf(called, bodies, above + 1));
            }
        }
        return below + 1;
    }

    private static Set<String> calledIn(String body, Set<String> names) {
        Set<String> called = new TreeSet<>();
        // A function of the library may bear the name of one of the class's own methods.
        Matcher call = Pattern.compile("(?<!\\b[A-Z]\\w{0,20}\\.)\\b(\\w+)\\(").matcher(body);
        while (call.find()) {
            if (names.contains(call.group(1))) {
                called.add(call.group(1));
            }
        }
        return called;
    }

    public static void main(String[] args) throws IOException {
        face();
        faceOfTheDocument();
        classesInside();
        source();
        System.out.println(wrong == 0 ? "the rules are kept, as far as looked at" : wrong + " rules are not kept");
        if (wrong != 0) {
            System.exit(1);
        }
    }
}
