import java.nio.file.Files;
import java.nio.file.Path;
import java.util.HashMap;
import java.util.Map;
import java.util.regex.Matcher;
import java.util.regex.Pattern;

/** What README.md tells of the class is so: the answers of its example, every call of the face, every test. */
public final class ReadmeTest {
    private static final Check CHECK = new Check();
    private static final Pattern LINE = Pattern.compile("(?:int (\\w+) = )?x\\.(\\w+)\\(([^()]*)\\);\\s*// (-?\\d+).*");

    private final Map<String, Integer> named = new HashMap<>();
    private final OpenPots x = new OpenPots();

    public static void main(String[] args) throws Exception {
        Path root = Path.of(args.length > 0 ? args[0] : ".");
        String readme = Files.readString(root.resolve("README.md"));
        new ReadmeTest().example(readme);
        for (var method : OpenPots.class.getDeclaredMethods()) {
            if (java.lang.reflect.Modifier.isPublic(method.getModifiers())) {
                CHECK.due(method.getName() + " is told", readme.contains("`" + method.getName() + "(") ? 1 : 0, 1);
            }
        }
        try (var files = Files.list(root.resolve("src/test/java"))) {
            files.map(file -> file.getFileName().toString().replace(".java", "")).sorted()
                    .forEach(name -> CHECK.due(name + " is told", readme.contains("`" + name + "`") ? 1 : 0, 1));
        }
        CHECK.end();
    }

    /** Each line that tells an answer is called; the one that puts the text is done by its words. */
    private void example(String readme) throws ReflectiveOperationException {
        Matcher text = Pattern.compile("String text = \"([^\"]*)\";").matcher(readme);
        CHECK.due("there is a text", text.find() ? 1 : 0, 1);
        named.put("length", text.group(1).length());
        int told = 0;
        for (String line : readme.substring(text.end()).replace("text.length()", "length").split("\n")) {
            Matcher call = LINE.matcher(line);
            if (line.endsWith("x.put(0, i, text.charAt(i));")) {
                putText(text.group(1));
            }
            if (call.matches()) {
                told++;
                int got = call(call.group(2), call.group(3).split(", *"));
                CHECK.due(line, got, Integer.parseInt(call.group(4)));
                named.put(String.valueOf(call.group(1)), got);
            }
        }
        CHECK.due("too few answers are told: " + told, told < 10 ? 1 : 0, 0);
    }

    private void putText(String text) {
        for (int i = 0; i < text.length(); i++) {
            CHECK.due("put", x.put(0, i, text.charAt(i)), 1);
        }
    }

    private int call(String name, String[] numbers) throws ReflectiveOperationException {
        int count = numbers[0].isEmpty() ? 0 : numbers.length;
        Class<?>[] types = new Class<?>[count];
        Object[] values = new Object[count];
        for (int k = 0; k < count; k++) {
            boolean isTruth = numbers[k].equals("true") || numbers[k].equals("false");
            types[k] = isTruth ? boolean.class : int.class;
            values[k] = isTruth ? (Object) Boolean.valueOf(numbers[k]) : (Object) number(numbers[k]);
        }
        return ((Number) OpenPots.class.getMethod(name, types).invoke(x, values)).intValue();
    }

    private Integer number(String told) {
        return named.containsKey(told) ? named.get(told) : Integer.valueOf(told);
    }
}
