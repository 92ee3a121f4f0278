import java.lang.reflect.Executable;
import java.lang.reflect.Field;
import java.lang.reflect.Modifier;
import java.nio.file.Files;
import java.nio.file.Path;
import java.util.ArrayList;
import java.util.Arrays;
import java.util.HashSet;
import java.util.LinkedHashMap;
import java.util.List;
import java.util.Map;
import java.util.Set;
import java.util.regex.Matcher;
import java.util.regex.Pattern;

/** Those rules of LANGUAGE.md that a look at the source or at the compiled class can check. */
final class LanguageTest {
    private static final Pattern METHOD = Pattern.compile("(?m)^ +(?:[\\w\\[\\]]+ )+(\\w+)\\([^()]*\\) \\{$");
    private static final Pattern LIBRARY = Pattern.compile("\\b(Integer|Long|Math|System|Arrays|List|String)\\.(\\w+)");
    private static final Set<String> LIBRARY_USED = Set.of("Integer.bitCount", "Math.min", "Math.floorMod");
    private static final Set<Class<?>> CONSTANTS =
            Set.of(int.class, long.class, boolean.class, char.class, String.class);

    private static String text;
    /** The source without its comments. */
    private static String code;

    public static void main(String[] args) throws Exception {
        text = Files.readString(Path.of("src/main/java/MinuteSignal.java"));
        code = text.replaceAll("(?s)/\\*.*?\\*/", " ").replaceAll("//[^\n]*", " ");
        words();
        library();
        List<Class<?>> classes = new ArrayList<>(Arrays.asList(MinuteSignal.class.getDeclaredClasses()));
        classes.add(MinuteSignal.class);
        Due.says("the file has at most some twelve classes");
        Due.isTrue(classes.size() + " classes", classes.size() > 1 && classes.size() <= 12);
        for (Class<?> one : classes) {
            fields(one);
            parameters(one);
        }
        Map<String, String> bodies = bodies();
        lengths(bodies);
        depths(bodies);
        Due.end();
    }

    private static void words() {
        Due.says("No throw, try, catch, synchronized, assert, .. no lambda, no method reference");
        String ruledOut = "\\b(throw|throws|try|catch|synchronized|assert|import|package|new Thread|double|float)\\b";
        Matcher found = Pattern.compile(ruledOut + "|->|::|\"").matcher(code);
        while (found.find()) {
            Due.isTrue("the source without '" + found.group() + "'", false);
        }
        Due.isTrue("the source has signs 1 to 127 alone", text.chars().allMatch(c -> c > 0 && c < 128));
    }

    private static void library() {
        Due.says("The library: only what stands here.");
        Matcher found = LIBRARY.matcher(code);
        while (found.find()) {
            Due.isTrue(found.group() + " is known to be allowed", LIBRARY_USED.contains(found.group()));
        }
    }

    private static void fields(Class<?> one) {
        int own = 0;
        for (Field field : one.getDeclaredFields()) {
            if (Modifier.isStatic(field.getModifiers())) {
                Due.says("Static fields are final: constants of int, long, boolean, char or String");
                Due.isTrue(field.toString(), Modifier.isFinal(field.getModifiers())
                        && CONSTANTS.contains(field.getType()));
            } else {
                own++;
            }
        }
        Due.says("a class some twenty fields beside its constants");
        Due.isTrue(one.getName() + " has " + own, own <= 20);
        Due.says("No inner class that isn't static");
        Due.isTrue(one.getName(), one == MinuteSignal.class || Modifier.isStatic(one.getModifiers()));
    }

    private static void parameters(Class<?> one) {
        Due.says("A method takes at most seven parameters.");
        List<Executable> all = new ArrayList<>(Arrays.asList(one.getDeclaredMethods()));
        all.addAll(Arrays.asList(one.getDeclaredConstructors()));
        for (Executable method : all) {
            Due.isTrue(method.toString(), method.getParameterCount() <= 7);
        }
    }

    /** Each method's name, and its lines up to the brace that closes it. */
    private static Map<String, String> bodies() {
        Map<String, String> bodies = new LinkedHashMap<>();
        Matcher method = METHOD.matcher(code);
        while (method.find()) {
            int open = 1;
            int end = method.end();
            while (end < code.length() && open > 0) {
                char sign = code.charAt(end);
                open += sign == '{' ? 1 : sign == '}' ? -1 : 0;
                end++;
            }
            String name = method.group(1);
            Due.says("each method has a name of its own, so that its calls can be told by it");
            Due.isTrue(name, bodies.put(name, code.substring(method.end(), end)) == null);
        }
        Due.says("the methods of the source are found");
        Due.isTrue(bodies.keySet().toString(), bodies.size() > 40 && bodies.containsKey("take"));
        return bodies;
    }

    private static void lengths(Map<String, String> bodies) {
        Due.says("Methods stay short (some sixty lines)");
        for (Map.Entry<String, String> method : bodies.entrySet()) {
            Due.isTrue(method.getKey(), method.getValue().lines().count() <= 60);
        }
    }

    private static void depths(Map<String, String> bodies) {
        Due.says("calls that are no recursion go at most eight deep");
        for (String name : bodies.keySet()) {
            int depth = depth(name, bodies, new HashSet<>());
            Due.isTrue(name + " goes " + depth + " deep", depth <= 8);
        }
    }

    private static int depth(String name, Map<String, String> bodies, Set<String> open) {
        if (!open.add(name)) {
            Due.isTrue(name + " does not call itself", false);
            return 0;
        }
        int deepest = 0;
        String body = bodies.get(name);
        Matcher call = Pattern.compile("\\b(\\w+)\\(").matcher(body);
        while (call.find()) {
            if (bodies.containsKey(call.group(1))) {
                deepest = Math.max(deepest, depth(call.group(1), bodies, open));
            } else if (call.start() > 0 && body.charAt(call.start() - 1) == '.') {
                // a call of the library
                deepest = Math.max(deepest, 1);
            }
        }
        open.remove(name);
        return deepest + 1;
    }
}
