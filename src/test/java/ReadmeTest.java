import java.lang.reflect.Method;
import java.lang.reflect.Modifier;
import java.net.URL;
import java.net.URLClassLoader;
import java.nio.file.Files;
import java.nio.file.Path;
import java.util.ArrayList;
import java.util.Comparator;
import java.util.List;
import java.util.regex.Matcher;
import java.util.regex.Pattern;
import java.util.stream.Stream;
import javax.tools.ToolProvider;

/** README.md tells the truth: its example compiles and answers as it says, and it names every call. */
public final class ReadmeTest {
    /** A call whose answer stands behind it, as in x.reach(1);  // 12 states. */
    private static final Pattern TOLD = Pattern.compile("(x\\.[a-z]+\\(.*\\));\\s*// (-?\\d+)\\b.*");

    public static void main(String[] args) throws Exception {
        String readme = Files.readString(Path.of("README.md"));
        namesEveryCall(readme);
        Path folder = Files.createTempDirectory("readme");
        try {
            runExample(readme, folder);
        } finally {
            removeAll(folder);
        }
        Kit.end();
    }

    private static void namesEveryCall(String readme) {
        for (Method method : FinerSteps.class.getDeclaredMethods()) {
            if (Modifier.isPublic(method.getModifiers())) {
                boolean named = readme.contains("`" + method.getName() + "`")
                        || readme.contains("`" + method.getName() + "()`");
                Kit.due("README.md names " + method.getName(), named ? 1 : 0, 1);
            }
        }
        Kit.due("README.md names .ci/run", readme.contains("`.ci/run`") ? 1 : 0, 1);
    }

    private static void runExample(String readme, Path folder) throws Exception {
        Path source = folder.resolve("Example.java");
        List<String> calls = new ArrayList<>();
        List<Integer> wanted = new ArrayList<>();
        Files.writeString(source, exampleOf(readme, calls, wanted));
        Kit.due("README.md's example tells answers", wanted.size() > 20 ? 1 : 0, 1);
        int compiled = ToolProvider.getSystemJavaCompiler().run(null, null, null, "-cp",
                System.getProperty("java.class.path"), "-d", folder.toString(), source.toString());
        Kit.due("README.md's example compiles", compiled, 0);
        if (compiled != 0) {
            return;
        }
        try (URLClassLoader loader = new URLClassLoader(new URL[] {folder.toUri().toURL()})) {
            Object answers = loader.loadClass("Example").getMethod("answers").invoke(null);
            List<?> got = (List<?>) answers;
            for (int i = 0; i < wanted.size(); i++) {
                Kit.due("README.md's " + calls.get(i), (Integer) got.get(i), wanted.get(i));
            }
        }
        Kit.dueText("README.md's case", writtenOf(readme), "n=0 x=0 y=0 pick=2");
    }

    /** The example as a class that gathers the answers which are told. */
    private static String exampleOf(String readme, List<String> calls, List<Integer> wanted) {
        StringBuilder out = new StringBuilder("import java.util.*;\npublic class Example {\n"
                + "public static List<Integer> answers() {\nList<Integer> all = new ArrayList<>();\n");
        for (String line : block(readme, "```java\n").split("\n")) {
            Matcher told = TOLD.matcher(line);
            if (told.matches()) {
                out.append("all.add(").append(told.group(1)).append(");\n");
                calls.add(told.group(1));
                wanted.add(Integer.parseInt(told.group(2)));
            } else {
                out.append(line).append('\n');
            }
        }
        return out.append("return all;\n}\n}\n").toString();
    }

    /** What the example's write() writes, by the class itself. */
    private static String writtenOf(String readme) {
        StringBuilder text = new StringBuilder();
        Matcher part = Pattern.compile("\"([^\"]*)\"").matcher(block(readme, "```java\n"));
        while (part.find()) {
            text.append(part.group(1));
        }
        FinerSteps x = Kit.of(text.toString());
        x.duty(1, 0, 0);
        x.write();
        return Kit.written(x);
    }

    private static String block(String readme, String opening) {
        int from = readme.indexOf(opening);
        int to = readme.indexOf("```", from + opening.length());
        return from < 0 || to < 0 ? "" : readme.substring(from + opening.length(), to);
    }

    private static void removeAll(Path folder) throws Exception {
        List<Path> all;
        try (Stream<Path> walked = Files.walk(folder)) {
            all = walked.sorted(Comparator.reverseOrder()).toList();
        }
        for (Path each : all) {
            Files.delete(each);
        }
    }
}
