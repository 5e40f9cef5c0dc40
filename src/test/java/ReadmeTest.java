import java.io.IOException;
import java.lang.reflect.Method;
import java.lang.reflect.Modifier;
import java.net.URL;
import java.net.URLClassLoader;
import java.nio.file.DirectoryStream;
import java.nio.file.Files;
import java.nio.file.Path;
import java.util.ArrayList;
import java.util.List;
import java.util.Set;
import java.util.TreeSet;
import java.util.regex.Matcher;
import java.util.regex.Pattern;

/** What README.md says is so: its example answers what stands behind each call, its tables and names are all there are. */
public final class ReadmeTest {
    private static final Check CHECK = new Check();
    private static final Pattern ASKED = Pattern.compile("^(x\\.\\w+\\(.*\\));\\s*// ([A-Z]+|-?\\d+): \\S.*$");

    private ReadmeTest() {
    }

    public static void main(String[] args) throws IOException, ReflectiveOperationException, InterruptedException {
        String readme = Files.readString(Path.of("README.md"));
        example(block(readme));
        usesEveryCall(block(readme));
        calls(readme);
        classes(readme);
        tests(readme);
        paths(readme);
        CHECK.end();
    }

    private static void due(String what, boolean is) {
        CHECK.due(what, is ? 1 : 0, 1);
    }

    private static String block(String readme) {
        int from = readme.indexOf("```java\n") + 8;
        return readme.substring(from, readme.indexOf("```", from));
    }

    // ---- the example

    private static void example(String block) throws IOException, ReflectiveOperationException, InterruptedException {
        StringBuilder body = new StringBuilder();
        List<String> asked = new ArrayList<>();
        List<Integer> want = new ArrayList<>();
        for (String line : block.split("\n")) {
            Matcher m = ASKED.matcher(line);
            if (m.matches()) {
                asked.add(m.group(1));
                want.add(number(m.group(2)));
                body.append("answers.add(").append(m.group(1)).append(");\n");
            } else {
                due("an answer stands behind '" + line + "'", !line.startsWith("x."));
                body.append(line).append('\n');
            }
        }
        due("the example asks", asked.size() > 30);
        List<?> got = run(body.toString());
        for (int i = 0; i < asked.size(); i++) {
            CHECK.due("README's " + asked.get(i), (Integer) got.get(i), want.get(i));
        }
    }

    private static int number(String told) throws ReflectiveOperationException {
        return Character.isLetter(told.charAt(0)) ? StiltHeralds.class.getField(told).getInt(null) : Integer.parseInt(told);
    }

    private static List<?> run(String body) throws IOException, ReflectiveOperationException, InterruptedException {
        Path dir = Files.createTempDirectory("readme");
        Path file = dir.resolve("Example.java");
        Path made = dir.resolve("Example.class");
        try {
            Files.writeString(file, "public class Example {\n"
                + "public static java.util.List<Integer> run() {\n"
                + "java.util.List<Integer> answers = new java.util.ArrayList<>();\n" + body + "return answers;\n}\n}\n");
            // the javac that .ci/run uses, and that README.md asks for
            Process javac = new ProcessBuilder("javac", "-d", dir.toString(), "-cp", System.getProperty("java.class.path"),
                file.toString()).inheritIO().start();
            CHECK.due("README's example is compiled", javac.waitFor(), 0);
            try (URLClassLoader loader = new URLClassLoader(new URL[] {dir.toUri().toURL()})) {
                return (List<?>) loader.loadClass("Example").getMethod("run").invoke(null);
            }
        } finally {
            Files.deleteIfExists(made);
            Files.deleteIfExists(file);
            Files.deleteIfExists(dir);
        }
    }

    private static void usesEveryCall(String block) {
        for (Method m : StiltHeralds.class.getDeclaredMethods()) {
            if (Modifier.isPublic(m.getModifiers())) {
                due("the example uses " + m.getName(), block.contains("x." + m.getName() + "("));
            }
        }
    }

    // ---- tables and names

    /** The calls' table has the face's calls in the face's order. */
    private static void calls(String readme) throws IOException {
        Matcher m = Pattern.compile("(?m)^\\| `(\\w+\\(.*?\\))` \\| \\S.*\\|$").matcher(readme);
        String source = Files.readString(Path.of("src/main/java/StiltHeralds.java"));
        int at = 0;
        int rows = 0;
        while (m.find()) {
            int found = source.indexOf("public int " + m.group(1) + " {", at);
            due("the class has " + m.group(1) + " behind the row ahead of it", found >= 0);
            at = Math.max(at, found);
            rows++;
        }
        CHECK.due("rows of calls", rows, 28);
    }

    private static Set<String> named(String text, String pattern) {
        Set<String> names = new TreeSet<>();
        Matcher m = Pattern.compile(pattern).matcher(text);
        while (m.find()) {
            names.add(m.group(1));
        }
        return names;
    }

    private static void classes(String readme) {
        Set<String> has = new TreeSet<>();
        for (Class<?> c : StiltHeralds.class.getDeclaredClasses()) {
            has.add(c.getSimpleName());
        }
        Set<String> says = named(readme, "(?m)^\\| `([A-Z]\\w+)` \\|");
        due("README's classes " + says + " are " + has, says.equals(has));
    }

    private static void tests(String readme) throws IOException {
        Set<String> has = new TreeSet<>();
        try (DirectoryStream<Path> files = Files.newDirectoryStream(Path.of("src/test/java"), "*.java")) {
            for (Path file : files) {
                has.add(file.getFileName().toString().replace(".java", ""));
            }
        }
        String about = readme.substring(readme.indexOf("## How to run its tests"));
        for (String name : has) {
            due("README tells of " + name, about.contains("`" + name + "`"));
        }
        for (String name : named(about, "`([A-Z]\\w+Test)`")) {
            due("there is a " + name, has.contains(name));
        }
    }

    private static void paths(String readme) {
        for (String path : named(readme, "`((?:\\.\\./shared|src)/[\\w./]*)`")) {
            due("there is " + path, Files.exists(Path.of(path)));
        }
        due(".ci/run is there and can be run", Files.isExecutable(Path.of(".ci/run")) && readme.contains("\n    .ci/run\n"));
    }
}
