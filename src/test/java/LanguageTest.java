import java.io.IOException;
import java.lang.reflect.Constructor;
import java.lang.reflect.Field;
import java.lang.reflect.Method;
import java.lang.reflect.Modifier;
import java.nio.charset.StandardCharsets;
import java.nio.file.Files;
import java.nio.file.Path;
import java.util.Arrays;
import java.util.List;
import java.util.Map;
import java.util.TreeMap;
import java.util.TreeSet;
import java.util.regex.Matcher;
import java.util.regex.Pattern;

/** The face of the document, member by member, and those rules of LANGUAGE.md that can be seen from the text. */
public final class LanguageTest {
    private static final String[] FACE = {"weight(int,int):int", "pay(int,int,int,int,int):int", "believe(int,int,int):int",
        "send(int,int):int", "answer(int,int):int", "adopt(int):int", "payoff(int,int,int,int):int", "ofType(int,int):int",
        "ofMessage(int,int):int", "belief(int,int,int):int", "mean(int,int,int):int", "why(int):int", "count(int):int",
        "plans(int):int", "planAt(int):int", "bestAnswer(int):int", "bestPlan(int):int", "put(long):int", "wipe():int",
        "fault():int", "carryOut():int", "undo():int", "save(int):int", "restore(int):int"};
    private static final String[] CONSTANTS = {"NO_SUCH=-1", "BAD_VALUE=-2", "BAD_TEXT=-3", "TOO_MANY=-4", "NOT_POSSIBLE=-5", "NONE=-6"};

    private static final List<String> LIBRARY = List.of("System.arraycopy", "Math.abs", "Math.max", "Math.min", "Integer.bitCount",
        "Arrays.fill");

    private static int wrong = 0;

    public static void main(String[] args) throws Exception {
        face();
        rules();
        System.out.println(wrong == 0 ? "all rules are kept" : wrong + " rules are not kept");
        if (wrong != 0) {
            System.exit(1);
        }
    }

    private static void must(boolean is, String what) {
        if (!is) {
            wrong++;
            System.out.println(what);
        }
    }

    private static void face() throws IllegalAccessException {
        Class<?> games = MessageGames.class;
        must(Modifier.isPublic(games.getModifiers()) && Modifier.isFinal(games.getModifiers()), "public and final");
        TreeSet<String> open = new TreeSet<>(), hidden = new TreeSet<>(), names = new TreeSet<>();
        for (Method method : games.getDeclaredMethods()) {
            if (Modifier.isPrivate(method.getModifiers())) {
                hidden.add(method.getName());
                continue;
            }
            StringBuilder text = new StringBuilder(method.getName()).append("(");
            for (Class<?> type : method.getParameterTypes()) {
                text.append(text.charAt(text.length() - 1) == '(' ? "" : ",").append(type);
            }
            open.add(text.append("):").append(method.getReturnType()).toString());
            names.add(method.getName());
            must(method.getModifiers() == Modifier.PUBLIC, method + " is public alone");
        }
        must(open.equals(new TreeSet<>(Arrays.asList(FACE))), "the methods of the face, not " + open);
        TreeSet<String> constants = new TreeSet<>();
        for (Field field : games.getDeclaredFields()) {
            if (!Modifier.isPrivate(field.getModifiers())) {
                must(field.getModifiers() == (Modifier.PUBLIC | Modifier.STATIC | Modifier.FINAL), field + " is a constant");
                constants.add(field.getName() + "=" + field.getInt(null));
            }
        }
        must(constants.equals(new TreeSet<>(Arrays.asList(CONSTANTS))), "the constants of the face, not " + constants);
        Constructor<?>[] constructors = games.getDeclaredConstructors();
        must(constructors.length == 1 && constructors[0].getParameterCount() == 0 && Modifier.isPublic(constructors[0].getModifiers()),
            "one constructor, public");
        for (Class<?> inside : games.getDeclaredClasses()) {
            must(Modifier.isStatic(inside.getModifiers()) && !Modifier.isPublic(inside.getModifiers()), inside + " is static, not public");
            for (Method method : inside.getDeclaredMethods()) {
                hidden.add(method.getName());
            }
            int fields = 0;
            for (Field field : inside.getDeclaredFields()) {
                fields += Modifier.isStatic(field.getModifiers()) ? 0 : 1;
                must(!Modifier.isStatic(field.getModifiers()) || Modifier.isFinal(field.getModifiers()), field + " is final");
            }
            must(fields <= 20, inside + " has some twenty fields at most");
        }
        must(games.getDeclaredClasses().length < 12, "some twelve classes at most");
        hidden.retainAll(names);
        must(hidden.isEmpty(), "private methods with public names: " + hidden);
    }

    private static void rules() throws IOException {
        String text = new String(Files.readAllBytes(Path.of("src/main/java/MessageGames.java")), StandardCharsets.ISO_8859_1);
        must(text.chars().allMatch(sign -> sign < 127), "plain signs alone");
        String bare = text.replaceAll("(?s)/\\*.*?\\*/", " ").replaceAll("//[^\n]*", " ").replaceAll("\"[^\"\n]*\"", "\"\"");
        must(!bare.contains("package "), "no package");
        for (String word : "throw throws try catch synchronized assert lambda Object equals hashCode toString System.out double float".split(" ")) {
            must(!Pattern.compile("\\b" + Pattern.quote(word) + "\\b").matcher(bare).find(), "the word " + word);
        }
        for (String sign : new String[] {"->", "::", "\" +", "+ \"", "@"}) {
            must(!bare.contains(sign), "the sign " + sign);
        }
        Matcher imports = Pattern.compile("import ([^;]*);").matcher(bare);
        while (imports.find()) {
            must(imports.group(1).equals("java.util.Arrays"), "the import of " + imports.group(1));
        }
        Matcher libraries = Pattern.compile("\\b(System|Math|Arrays|Integer|Long|String|Character|Thread|Runtime)\\.\\w+").matcher(bare);
        while (libraries.find()) {
            must(LIBRARY.contains(libraries.group()), "the use of " + libraries.group());
        }
        must(longestMethod(text) <= 60, "methods of some sixty lines at most");
        methodsKeepRules(bodiesIn(bare));
    }

    private static void methodsKeepRules(Map<String, String> bodies) {
        must(bodies.keySet().containsAll(Arrays.asList("weight", "restore", "possibleActions", "look", "faultPlace")), "methods are found");
        for (String method : bodies.keySet()) {
            boolean isConstructor = method.equals("MessageGames");
            must(isConstructor || !bodies.get(method).contains("new "), method + " makes no object");
            int depth = depthOf(method, bodies, 0);
            must(depth <= 8, method + " leads " + depth + " calls deep");
        }
    }

    /** The text of each method but the constructors of the classes inside; methods of one name are taken for one. */
    private static Map<String, String> bodiesIn(String bare) {
        Map<String, String> bodies = new TreeMap<>();
        String head = "\n( {4}| {8})(?:\\w+ )*[\\w\\[\\]]+ (\\w+)\\(([^()]*)\\) \\{";
        Matcher methods = Pattern.compile(head + "(?s)(.*?)\n\\1\\}").matcher(bare);
        while (methods.find()) {
            must(methods.group(3).split(",").length <= 7, methods.group(2) + " takes seven parameters at most");
            bodies.merge(methods.group(2), methods.group(4), String::concat);
        }
        return bodies;
    }

    /** How deep calls go from a method on; one that comes back to itself goes deeper than any may. */
    private static int depthOf(String method, Map<String, String> bodies, int above) {
        int deepest = 0;
        Matcher names = Pattern.compile("\\b(\\w+)\\(").matcher(bodies.get(method));
        while (above < 20 && names.find()) {
            if (bodies.containsKey(names.group(1))) {
                deepest = Math.max(deepest, depthOf(names.group(1), bodies, above + 1));
            }
        }
        return deepest + 1;
    }

    private static int longestMethod(String text) {
        int longest = 0, length = 0;
        for (String line : text.split("\n")) {
            boolean isHead = line.matches(" {4}( {4})?\\S.*\\) \\{");
            length = isHead ? 0 : length + 1;
            if (line.matches(" {4}( {4})?\\}")) {
                longest = Math.max(longest, length);
            }
        }
        return longest;
    }
}
