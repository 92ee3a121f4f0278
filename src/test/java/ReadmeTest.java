import java.io.IOException;
import java.lang.reflect.Method;
import java.net.URL;
import java.net.URLClassLoader;
import java.nio.file.DirectoryStream;
import java.nio.file.Files;
import java.nio.file.Path;
import java.util.ArrayList;
import java.util.Comparator;
import java.util.List;
import java.util.TreeSet;
import java.util.regex.Matcher;
import java.util.regex.Pattern;
import java.util.stream.Stream;
import javax.tools.JavaCompiler;
import javax.tools.ToolProvider;

/** README.md holds: its examples answer what stands behind them, its tables name all calls and all tests. */
final class ReadmeTest {
    /** A call with the answer behind it: a number, or a constant of the class, and a colon. */
    private static final Pattern ANSWERED = Pattern.compile("(radio\\..*\\));\\s*// (-?\\d+|[A-Z]+):.*");
    private static final int EXAMPLES = 3;
    private static final int ANSWERS = 42;

    public static void main(String[] args) throws Exception {
        String text = Files.readString(Path.of("README.md"));
        examplesAnswerWhatIsShown(text);
        everyCallIsTold(text);
        everyTestIsNamed(text);
        everyNumberStands(text);
        testsAreRunAsTold(text);
        Due.end();
    }

    private static void examplesAnswerWhatIsShown(String text) throws Exception {
        List<String> examples = new ArrayList<>();
        Matcher block = Pattern.compile("(?s)```java\n(.*?)```").matcher(text);
        while (block.find()) {
            examples.add(block.group(1));
        }
        Due.is("README's examples", examples.size(), EXAMPLES);
        StringBuilder source = new StringBuilder("public final class Shown {\n");
        for (int i = 0; i < examples.size(); i++) {
            source.append("public static void example").append(i).append("(java.util.List<Object[]> said) {\n");
            for (String line : examples.get(i).split("\n")) {
                source.append(listening(line)).append('\n');
            }
            source.append("}\n");
        }
        List<Object[]> said = play(source.append("}\n").toString(), examples.size());
        for (Object[] answer : said) {
            Due.is("README: " + answer[0], (Integer) answer[1], (Integer) answer[2]);
        }
        Due.is("README's answers", said.size(), ANSWERS);
    }

    private static String listening(String line) {
        Matcher answered = ANSWERED.matcher(line.trim());
        if (!answered.matches()) {
            return line;
        }
        String call = answered.group(1);
        String due = answered.group(2);
        String number = Character.isLetter(due.charAt(0)) ? "MinuteSignal." + due : due;
        return "said.add(new Object[] {\"" + call + "\", " + call + ", " + number + "});";
    }

    private static List<Object[]> play(String source, int examples) throws Exception {
        List<Object[]> said = new ArrayList<>();
        Path directory = Files.createTempDirectory("readme");
        try {
            Path file = directory.resolve("Shown.java");
            Files.writeString(file, source);
            JavaCompiler compiler = ToolProvider.getSystemJavaCompiler();
            int code = compiler.run(null, null, null, "-cp", System.getProperty("java.class.path"),
                    "-d", directory.toString(), file.toString());
            Due.is("compiling README's examples", code, 0);
            if (code == 0) {
                URL[] place = {directory.toUri().toURL()};
                try (URLClassLoader loader = new URLClassLoader(place)) {
                    Class<?> shown = loader.loadClass("Shown");
                    for (int i = 0; i < examples; i++) {
                        Method example = shown.getMethod("example" + i, List.class);
                        example.invoke(null, said);
                    }
                }
            }
        } finally {
            remove(directory);
        }
        return said;
    }

    private static void remove(Path directory) throws IOException {
        List<Path> all;
        try (Stream<Path> walk = Files.walk(directory)) {
            all = walk.sorted(Comparator.reverseOrder()).toList();
        }
        for (Path path : all) {
            Files.delete(path);
        }
    }

    private static void everyCallIsTold(String text) throws IOException {
        String source = Files.readString(Path.of("src/main/java/MinuteSignal.java"));
        Matcher method = Pattern.compile("public int (\\w+)\\((.*?)\\) \\{").matcher(source);
        int calls = 0;
        while (method.find()) {
            String row = "| `" + method.group(1) + "(" + method.group(2).replace("int ", "") + ")` |";
            Due.isTrue("README has the row " + row, text.contains("\n" + row));
            calls++;
        }
        Due.is("calls of the class", calls, 18);
    }

    private static void everyTestIsNamed(String text) throws IOException {
        TreeSet<String> named = new TreeSet<>();
        Matcher row = Pattern.compile("(?m)^\\| (\\w+Test) \\|").matcher(text);
        while (row.find()) {
            Due.isTrue("README names " + row.group(1) + " once", named.add(row.group(1)));
        }
        TreeSet<String> there = new TreeSet<>();
        try (DirectoryStream<Path> files = Files.newDirectoryStream(Path.of("src/test/java"), "*Test.java")) {
            for (Path file : files) {
                there.add(file.getFileName().toString().replace(".java", ""));
            }
        }
        Due.isTrue("README names the tests " + there + ", and " + named, named.equals(there));
    }

    /** The limits that the tables tell in words, asked of the class itself. */
    private static void everyNumberStands(String text) {
        MinuteSignal x = new MinuteSignal();
        Due.isTrue("README tells of lengths", text.contains("a pulse of length 0 to 30 into the row"));
        Due.is("hears(30)", x.hears(30), 1);
        Due.is("hears(31)", x.hears(31), MinuteSignal.BAD);
        Due.isTrue("README tells of NEED", text.contains("1 to 9, 3 at first"));
        Due.is("needs(0)", x.needs(0), MinuteSignal.BAD);
        Due.is("needs(9)", x.needs(9), 3);
        Due.is("needs(10)", x.needs(10), MinuteSignal.BAD);
        Due.isTrue("README tells of DRIFT", text.contains("0 to 50, 5 at first"));
        Due.is("drifts(50)", x.drifts(50), 5);
        Due.is("drifts(51)", x.drifts(51), MinuteSignal.BAD);
        Due.isTrue("README tells of going on", text.contains("go on by 1 to 999 minutes"));
        Due.is("goes(999)", x.goes(999), MinuteSignal.STATE);
        Due.is("goes(1000)", x.goes(1000), MinuteSignal.BAD);
    }

    private static void testsAreRunAsTold(String text) {
        Due.isTrue("README tells of .ci/run", text.contains("\n    .ci/run\n"));
        Due.isTrue(".ci/run can be run", Files.isExecutable(Path.of(".ci/run")));
    }
}
