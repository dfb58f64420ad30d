import java.io.IOException;
import java.lang.reflect.Field;
import java.lang.reflect.Method;
import java.lang.reflect.Modifier;
import java.nio.charset.StandardCharsets;
import java.nio.file.Files;
import java.nio.file.Path;
import java.util.ArrayList;
import java.util.List;
import java.util.TreeSet;
import java.util.regex.Matcher;
import java.util.regex.Pattern;
import java.util.stream.Stream;

/** README.md tells of each constant, method and test, of none that isn't there, and its example answers as it says. */
public final class ReadmeTest {
    private static final Pattern CONSTANT = Pattern.compile("(?m)^- `([A-Z_]+)` = (-?\\d+):");
    private static final Pattern METHOD = Pattern.compile("(?m)^- `([a-z]\\w*)\\(([^)]*)\\)`:");
    private static final Pattern TEST = Pattern.compile("(?m)^- `(\\w+Test)`:");
    private static final Pattern EXAMPLE = Pattern.compile("(?m)^games\\.(\\w+)\\(([^)]*)\\); *// (-?\\d+): ");

    public static void main(String[] args) throws IOException, ReflectiveOperationException {
        String page = new String(Files.readAllBytes(Path.of("README.md")), StandardCharsets.UTF_8);
        same("constants", told(CONSTANT, page), constants());
        same("methods", told(METHOD, page), methods());
        same("tests", told(TEST, page), tests());
        Due.is("the constructor is told of", page.contains("\n- `MessageGames()`:") ? 1 : 0, 1);
        example(page.substring(page.indexOf("```java"), page.indexOf("```\n")));
        Due.end();
    }

    private static void same(String what, TreeSet<String> got, TreeSet<String> want) {
        if (!got.equals(want)) {
            Due.is("README.md on its " + what + " (" + got + " for " + want + ")", got.size(), -1);
        }
    }

    /** What a pattern finds; parameters are told by their number, since a class file doesn't keep their names. */
    private static TreeSet<String> told(Pattern pattern, String page) {
        TreeSet<String> all = new TreeSet<>();
        Matcher found = pattern.matcher(page);
        while (found.find()) {
            String rest = found.groupCount() < 2 ? "" : pattern == METHOD ? "/" + parts(found.group(2)).size() : "=" + found.group(2);
            String name = found.group(1) + rest;
            Due.is(name + " is told of once", all.add(name) ? 1 : 2, 1);
        }
        return all;
    }

    private static TreeSet<String> constants() throws IllegalAccessException {
        TreeSet<String> all = new TreeSet<>();
        for (Field field : MessageGames.class.getFields()) {
            all.add(field.getName() + "=" + field.getInt(null));
        }
        return all;
    }

    private static TreeSet<String> methods() {
        TreeSet<String> all = new TreeSet<>();
        for (Method method : MessageGames.class.getDeclaredMethods()) {
            if (Modifier.isPublic(method.getModifiers())) {
                all.add(method.getName() + "/" + method.getParameterCount());
            }
        }
        return all;
    }

    private static TreeSet<String> tests() throws IOException {
        TreeSet<String> all = new TreeSet<>();
        try (Stream<Path> files = Files.list(Path.of("src/test/java"))) {
            files.map(file -> file.getFileName().toString()).filter(name -> name.endsWith("Test.java"))
                .forEach(name -> all.add(name.substring(0, name.length() - 5)));
        }
        return all;
    }

    private static List<String> parts(String parameters) {
        return parameters.isEmpty() ? List.of() : List.of(parameters.split(", "));
    }

    private static void example(String text) throws ReflectiveOperationException {
        MessageGames games = new MessageGames();
        Matcher call = EXAMPLE.matcher(text);
        int calls = 0;
        while (call.find()) {
            calls++;
            Due.is("the example's " + call.group(), answer(games, call.group(1), parts(call.group(2))), Long.parseLong(call.group(3)));
        }
        Due.is("each line of the example is a call with its answer", calls, text.split("games\\.").length - 1);
    }

    private static int answer(MessageGames games, String name, List<String> parts) throws ReflectiveOperationException {
        if (name.equals("put")) {
            return games.put(Long.decode(parts.get(0).replace("L", "")));
        }
        Class<?>[] types = new Class<?>[parts.size()];
        List<Object> values = new ArrayList<>();
        for (int i = 0; i < types.length; i++) {
            types[i] = int.class;
            values.add(Integer.decode(parts.get(i)));
        }
        return (int) MessageGames.class.getMethod(name, types).invoke(games, values.toArray());
    }
}
