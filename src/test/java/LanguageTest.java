import java.lang.reflect.Field;
import java.lang.reflect.Method;
import java.lang.reflect.Modifier;
import java.nio.file.Files;
import java.nio.file.Path;
import java.util.List;
import java.util.Map;
import java.util.Set;
import java.util.TreeMap;
import java.util.TreeSet;
import java.util.regex.Matcher;
import java.util.regex.Pattern;

/** The rules of LANGUAGE.md that can be seen from the source and from the compiled face. */
public final class LanguageTest {
    private static final Check CHECK = new Check();
    private static final Set<String> FACE = new TreeSet<>(List.of(
            "shop", "work", "ofWork", "before", "thing", "order", "ofOrder", "best", "from", "better", "cross", "knot",
            "bound", "part", "within", "build", "move", "moves", "cheapest", "room", "two", "without", "why", "widest",
            "sheet", "lose", "put", "cell", "tell", "show", "as", "trace", "fault", "many"));

    public static void main(String[] args) throws Exception {
        Path root = Path.of(args.length > 0 ? args[0] : ".");
        String source = Files.readString(root.resolve("src/main/java/OpenPots.java"));
        String code = source.replaceAll("(?s)/\\*.*?\\*/", "").replaceAll("//[^\n]*", "");
        words(code);
        calls(code);
        face();
        methods(code);
        CHECK.end();
    }

    private static void words(String code) {
        String[] banned = {"throw", "throws", "try", "catch", "synchronized", "assert", "import", "package", "protected",
            "Object", "lambda", "System.out", "hashCode", "toString", "Random", "Thread", "volatile", "native"};
        for (String word : banned) {
            CHECK.due("'" + word + "' in the source", count(code, "\\b" + word + "\\b"), 0);
        }
        CHECK.due("lambdas", count(code, "->"), 0);
        CHECK.due("method references", count(code, "::"), 0);
        CHECK.due("signs beyond ASCII", count(code, "[^\\x00-\\x7f]"), 0);
        CHECK.due("classes that are not static", count(code, "(?<!static )(?<!static final )(?<!public final )class "), 0);
        CHECK.due("too many classes", count(code, "\\bclass\\b") > 12 ? 1 : 0, 0);
    }

    private static void calls(String code) {
        Matcher found = Pattern.compile("\\b(Math|Integer|Long|System|Arrays|String)\\.(\\w+)").matcher(code);
        Set<String> listed = Set.of("Math.max", "Math.min", "Integer.bitCount", "System.arraycopy", "Long.MIN_VALUE");
        while (found.find()) {
            CHECK.due(found.group() + " is listed", listed.contains(found.group()) ? 1 : 0, 1);
        }
    }

    private static void face() {
        Set<String> names = new TreeSet<>();
        for (Method method : OpenPots.class.getDeclaredMethods()) {
            if (Modifier.isPublic(method.getModifiers())) {
                CHECK.due(method.getName() + " is told once", names.add(method.getName()) ? 1 : 0, 1);
            } else {
                CHECK.due(method.getName() + " is private", Modifier.isPrivate(method.getModifiers()) ? 1 : 0, 1);
                CHECK.due(method.getName() + " bears no public name", FACE.contains(method.getName()) ? 1 : 0, 0);
            }
        }
        CHECK.due("the face", names.equals(FACE) ? 1 : 0, 1);
        Set<String> constants = Set.of("UNKNOWN", "OUTSIDE", "STATE", "FULL", "NONE", "LOST");
        for (Field field : OpenPots.class.getDeclaredFields()) {
            boolean isPublic = Modifier.isPublic(field.getModifiers());
            CHECK.due(field.getName(), isPublic == constants.contains(field.getName()) ? 1 : 0, 1);
            CHECK.due(field.getName(), isPublic || Modifier.isPrivate(field.getModifiers()) ? 1 : 0, 1);
        }
        for (Class<?> inside : OpenPots.class.getDeclaredClasses()) {
            measures(inside);
            CHECK.due(inside.getName() + " is static", Modifier.isStatic(inside.getModifiers()) ? 1 : 0, 1);
            for (Method method : inside.getDeclaredMethods()) {
                CHECK.due(method.getName() + " bears no public name", FACE.contains(method.getName()) ? 1 : 0, 0);
            }
        }
        measures(OpenPots.class);
    }

    /** Rules 5 and 11: no static state, twenty fields, seven parameters. */
    private static void measures(Class<?> one) {
        int fields = 0;
        for (Field field : one.getDeclaredFields()) {
            boolean isStatic = Modifier.isStatic(field.getModifiers());
            CHECK.due("static " + field.getName(), isStatic && !Modifier.isFinal(field.getModifiers()) ? 1 : 0, 0);
            fields += isStatic ? 0 : 1;
        }
        CHECK.due(one.getName() + " has too many fields", fields > 20 ? 1 : 0, 0);
        for (Method method : one.getDeclaredMethods()) {
            CHECK.due(method.getName() + " takes too much", method.getParameterCount() > 7 ? 1 : 0, 0);
        }
    }

    /** Rules 8 and 11: no method is long, none calls itself by whatever way, and calls go at most eight deep. */
    private static void methods(String code) {
        Map<String, String> bodies = new TreeMap<>();
        Matcher found = Pattern.compile("(?m)^( {4}| {8})(?!(?:if|for|while|switch) )(?:[\\w\\[\\]]+ )*(\\w+)\\([^;{]*\\) \\{"
                + "\n((?s:.*?))^\\1}$").matcher(code);
        while (found.find()) {
            CHECK.due(found.group(2) + " is too long", count(found.group(3), "\n") > 60 ? 1 : 0, 0);
            bodies.merge(found.group(2), found.group(3), String::concat);
        }
        CHECK.due("all of the face is read", bodies.keySet().containsAll(FACE) ? 1 : 0, 1);
        for (String name : bodies.keySet()) {
            CHECK.due(name + " calls too deep", depth(name, bodies, 0) > 8 ? 1 : 0, 0);
        }
    }

    /** Methods of one name count as one, so it is never less than it is; ten are too many, be it that one is come to again. */
    private static int depth(String name, Map<String, String> bodies, int above) {
        int deepest = 0;
        Matcher call = Pattern.compile("(?<!new )\\b(\\w+)\\(").matcher(bodies.get(name));
        while (above < 9 && call.find()) {
            if (bodies.containsKey(call.group(1))) {
                deepest = Math.max(deepest, depth(call.group(1), bodies, above + 1));
            }
        }
        return deepest + 1;
    }

    private static int count(String code, String pattern) {
        return (int) Pattern.compile(pattern).matcher(code).results().count();
    }
}
