import java.io.IOException;
import java.lang.reflect.Constructor;
import java.lang.reflect.Field;
import java.lang.reflect.Method;
import java.lang.reflect.Modifier;
import java.nio.file.Files;
import java.nio.file.Path;
import java.util.Arrays;
import java.util.List;
import java.util.Set;
import java.util.TreeSet;
import java.util.regex.Matcher;
import java.util.regex.Pattern;

/** What of LANGUAGE.md a program can look at: the face, forbidden words, static state, the length of methods. */
public final class RulesTest {
    private static final Path SOURCE = Path.of("src/main/java/NamedNext.java");
    private static final List<String> FACE = List.of(
        "int write(int)", "int erase()", "int fault()", "int library()", "int reader(int,int)", "int book(int,int)",
        "int as(int,int)", "int may(int,int)", "int name(int,int)", "int day()", "int undo()", "int keep(int)",
        "int back(int)", "int longest(int,int)", "int row(int,int)", "int shortest(int)", "int can(int)",
        "int all(int)", "int fame(int)", "long mean(int,int)", "long odds(int,int,int)", "int turns(int,int)",
        "int clubs(int)", "int meet(int,int)", "int slip(int,int)", "int burn()", "int forged(int)", "int holder()",
        "int count(int)");
    private static final List<String> CONSTANTS = List.of("NONE", "UNKNOWN", "OUTSIDE", "NOT", "FULL");
    private static final int LONGEST_METHOD = 60;
    private static int wrong;

    private static void must(boolean holds, String what) {
        if (!holds) {
            wrong++;
            System.out.println("rules: " + what);
        }
    }

    private static String signature(Method method) {
        StringBuilder types = new StringBuilder();
        for (Class<?> type : method.getParameterTypes()) {
            types.append(types.length() == 0 ? "" : ",").append(type.getSimpleName());
        }
        return method.getReturnType().getSimpleName() + " " + method.getName() + "(" + types + ")";
    }

    private static void face() {
        Class<?> c = NamedNext.class;
        must(Modifier.isPublic(c.getModifiers()) && Modifier.isFinal(c.getModifiers()), "the class is public, final");
        Set<String> open = new TreeSet<>();
        for (Method method : c.getDeclaredMethods()) {
            if (!Modifier.isPrivate(method.getModifiers())) {
                must(Modifier.isPublic(method.getModifiers()) && !Modifier.isStatic(method.getModifiers()),
                    method + " is public");
                open.add(signature(method));
            }
        }
        must(open.equals(new TreeSet<>(FACE)), "the methods are the document's, not " + open);
        for (Field field : c.getDeclaredFields()) {
            boolean constant = CONSTANTS.contains(field.getName());
            must(constant ? Modifier.isPublic(field.getModifiers()) : Modifier.isPrivate(field.getModifiers()),
                field + " is as open as the document says");
        }
        Constructor<?>[] constructors = c.getDeclaredConstructors();
        must(constructors.length == 1 && Modifier.isPublic(constructors[0].getModifiers())
            && constructors[0].getParameterCount() == 0, "one public constructor");
    }

    private static void classesInside() {
        Class<?>[] inside = NamedNext.class.getDeclaredClasses();
        must(inside.length <= 11, "some twelve classes at most");
        Set<String> names = new TreeSet<>();
        for (String one : FACE) {
            names.add(one.substring(one.indexOf(' ') + 1, one.indexOf('(')));
        }
        for (Class<?> c : inside) {
            must(Modifier.isStatic(c.getModifiers()), c + " is static");
            for (Method method : c.getDeclaredMethods()) {
                must(!names.contains(method.getName()), method + " bears no public one's name");
            }
        }
        for (Class<?> c : withOuter(inside)) {
            int fields = 0;
            for (Field field : c.getDeclaredFields()) {
                if (Modifier.isStatic(field.getModifiers())) {
                    must(Modifier.isFinal(field.getModifiers()), field + " is final");
                } else {
                    fields++;
                }
            }
            must(fields <= 20, c + " has some twenty fields at most");
            for (Method method : c.getDeclaredMethods()) {
                must(method.getParameterCount() <= 7, method + " takes at most seven parameters");
            }
        }
    }

    private static List<Class<?>> withOuter(Class<?>[] inside) {
        Class<?>[] all = Arrays.copyOf(inside, inside.length + 1);
        all[inside.length] = NamedNext.class;
        return Arrays.asList(all);
    }

    private static void source() throws IOException {
        String whole = Files.readString(SOURCE);
        for (int i = 0; i < whole.length(); i++) {
            must(whole.charAt(i) < 128, "a letter beyond 127 at " + i);
        }
        String code = whole.replaceAll("(?s)/\\*.*?\\*/", "").replaceAll("//[^\n]*", "");
        Matcher forbidden = Pattern.compile("\\b(throw|throws|try|catch|synchronized|assert|package|hashCode|System\\.(?!"
            + "arraycopy)\\w+|Random|Thread|\\w+Exact|double|float)\\b|->|::").matcher(code);
        while (forbidden.find()) {
            must(false, "'" + forbidden.group() + "' stands in the source");
        }
        Matcher imports = Pattern.compile("import ([^;]+);").matcher(code);
        while (imports.find()) {
            must(Set.of("java.util.Arrays", "java.util.ArrayList", "java.util.List").contains(imports.group(1)),
                "import of " + imports.group(1));
        }
        lengths(code);
    }

    private static void lengths(String code) {
        String[] lines = code.split("\n");
        int begun = -1;
        String indent = "";
        for (int i = 0; i < lines.length; i++) {
            Matcher head = Pattern.compile("^( {4}| {8})[\\w\\[\\] ]+\\([^;=]*\\{$").matcher(lines[i]);
            if (head.find()) {
                begun = i;
                indent = head.group(1);
            } else if (begun >= 0 && lines[i].equals(indent + "}")) {
                must(i - begun < LONGEST_METHOD, "long method: " + lines[begun].trim());
                begun = -1;
            }
        }
    }

    public static void main(String[] args) throws IOException {
        face();
        classesInside();
        source();
        System.out.println(wrong == 0 ? "the rules are kept, as far as looked at" : wrong + " rules are not kept");
        if (wrong != 0) {
            System.exit(1);
        }
    }
}
