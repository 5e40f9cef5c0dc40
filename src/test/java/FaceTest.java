import java.io.IOException;
import java.lang.reflect.Constructor;
import java.lang.reflect.Field;
import java.lang.reflect.Method;
import java.lang.reflect.Modifier;
import java.nio.file.Files;
import java.nio.file.Path;
import java.util.ArrayList;
import java.util.Collections;
import java.util.List;
import java.util.Map;
import java.util.TreeMap;
import java.util.regex.Matcher;
import java.util.regex.Pattern;

/** The face is the document's and no more, the source keeps to LANGUAGE.md, and no arguments make a call throw. */
public final class FaceTest {
    private static final String[] FACE = {
        "alone(int)", "bestStake(int,int)", "canBe(int,int,int)", "canHear(int,int)", "depth(int,int,int)",
        "drift(int)", "fault()", "feed(int,long)", "first(int,int)", "fits()", "goBack(int)", "hour(int)",
        "inch(int,int)", "judge()", "keep(int)", "man(int,int)", "nobody(int)", "order(int,int)", "province()",
        "saw(int,int)", "sawed(int,int,int)", "see(int,int,int)", "seed(int)", "stake(int,int,boolean)",
        "tear()", "told(int)", "track(int,int)", "write(int,int)"};
    private static final String[] CONSTANTS = {
        "FULL = -1000000004", "NONE = -1", "NOT = -1000000003", "OUTSIDE = -1000000002", "UNKNOWN = -1000000001"};
    private static final String[] FORBIDDEN = {
        "throw", "throws", "try", "catch", "finally", "synchronized", "assert", "protected", "package", "Object",
        "System.out", "Random", "Thread", "Exact", "hashCode", "toString", "->", "::"};
    private static final List<String> LIBRARY = List.of(
        "Arrays.fill", "Arrays.copyOf", "Arrays.copyOfRange", "System.arraycopy", "Math.max", "Math.min", "Math.abs",
        "Math.floorMod", "Math.floorDiv", "Long.bitCount", "Integer.bitCount");
    private static final int[] EDGES = {
        Integer.MIN_VALUE, -1000000001, -2, -1, 0, 1, 2, 3, 4, 5, 6, 7, 8, 9, 20, 21, 35, 36, 40, 41, 99, 100, 500,
        Integer.MAX_VALUE};

    private static final Check CHECK = new Check();

    public static void main(String[] args) throws ReflectiveOperationException, IOException {
        methods();
        constants();
        members();
        source();
        library();
        methodsAreShort();
        edges();
        CHECK.end();
    }

    private static void due(String what, boolean is) {
        CHECK.due(what, is ? 1 : 0, 1);
    }

    private static String signature(Method m) {
        List<String> types = new ArrayList<>();
        for (Class<?> type : m.getParameterTypes()) {
            types.add(type.getSimpleName());
        }
        return m.getName() + "(" + String.join(",", types) + ")";
    }

    private static void methods() {
        List<String> found = new ArrayList<>();
        for (Method m : StiltHeralds.class.getDeclaredMethods()) {
            if (!Modifier.isPrivate(m.getModifiers())) {
                found.add(signature(m));
                due(m.getName() + " is public and answers an int",
                    Modifier.isPublic(m.getModifiers()) && m.getReturnType() == int.class);
            }
        }
        Collections.sort(found);
        due("the methods are " + found, found.equals(List.of(FACE)));
        Constructor<?>[] makers = StiltHeralds.class.getDeclaredConstructors();
        due("one public constructor without parameters",
            makers.length == 1 && Modifier.isPublic(makers[0].getModifiers()) && makers[0].getParameterCount() == 0);
        due("public and final", Modifier.isPublic(StiltHeralds.class.getModifiers())
            && Modifier.isFinal(StiltHeralds.class.getModifiers()));
    }

    private static void constants() throws ReflectiveOperationException {
        List<String> found = new ArrayList<>();
        for (Field f : StiltHeralds.class.getDeclaredFields()) {
            if (!Modifier.isPrivate(f.getModifiers())) {
                found.add(f.getName() + " = " + f.getInt(null));
            }
            due(f.getName() + ", if static, is final",
                !Modifier.isStatic(f.getModifiers()) || Modifier.isFinal(f.getModifiers()));
        }
        Collections.sort(found);
        due("the constants are " + found, found.equals(List.of(CONSTANTS)));
    }

    private static void members() {
        List<String> names = new ArrayList<>();
        for (String call : FACE) {
            names.add(call.substring(0, call.indexOf('(')));
        }
        List<Class<?>> classes = new ArrayList<>(List.of(StiltHeralds.class.getDeclaredClasses()));
        due("at most twelve classes", classes.size() <= 11);
        for (Class<?> c : classes) {
            due(c + " is static", Modifier.isStatic(c.getModifiers()));
            for (Method m : c.getDeclaredMethods()) {
                due(m + " has no name of the face", !names.contains(m.getName()));
                due(m + " has at most seven parameters", m.getParameterCount() <= 7);
            }
            due(c + " has at most twenty fields", c.getDeclaredFields().length <= 20);
        }
        for (Method m : StiltHeralds.class.getDeclaredMethods()) {
            due(m + " has at most seven parameters", m.getParameterCount() <= 7);
            due(m + " is of the face or has no name of it",
                Modifier.isPublic(m.getModifiers()) || !names.contains(m.getName()));
        }
    }

    private static String text() throws IOException {
        return Files.readString(Path.of("src/main/java/StiltHeralds.java"));
    }

    /** The source without its comments, as these say what they like. */
    private static String code() throws IOException {
        return text().replaceAll("(?s)/\\*.*?\\*/", " ").replaceAll("//[^\n]*", " ");
    }

    private static void source() throws IOException {
        String text = text();
        String code = code();
        for (String word : FORBIDDEN) {
            boolean letters = Character.isLetter(word.charAt(0));
            String pattern = letters ? "\\b" + word.replace(".", "\\.") + "\\b" : Pattern.quote(word);
            due("no " + word, !Pattern.compile(pattern).matcher(code).find());
        }
        for (String line : text.split("\n")) {
            due("import " + line, !line.startsWith("import ") || line.equals("import java.util.Arrays;"));
        }
        due("signs 1 to 127 alone", text.chars().allMatch(c -> c < 128));
    }

    private static boolean finds(String pattern, String code) {
        return Pattern.compile(pattern).matcher(code).find();
    }

    /** Rules 4, 5, 9 and 10. */
    private static void library() throws IOException {
        String code = code();
        Matcher used = Pattern.compile("\\b(Arrays|System|Math|Long|Integer|String|List)\\.\\w+").matcher(code);
        while (used.find()) {
            due("the library has " + used.group(), LIBRARY.contains(used.group()));
        }
        due("no text is joined by +", !finds("\"\\s*\\+|\\+\\s*\"", code));
        due("no static block", !finds("\\bstatic\\s*\\{", code));
        due("no loop without an end", !finds("while \\(true\\)|for \\(;;\\)", code));
        due("no array of arrays", !finds("\\]\\s*\\[\\s*\\]", code));
    }

    /** By name: the bodies of all methods and constructors, from the head to the brace below it. */
    private static Map<String, List<String>> bodies() throws IOException {
        Map<String, List<String>> found = new TreeMap<>();
        String[] lines = code().split("\n");
        for (int i = 0; i < lines.length; i++) {
            boolean head = lines[i].matches(" {4}( {4})?[a-zA-Z][\\w\\[\\] ]*\\([^()]*\\) \\{") && !lines[i].contains(" class ");
            if (head && !lines[i].trim().matches("(if|for|while|switch) .*")) {
                String end = lines[i].replaceAll("\\S.*", "") + "}";
                StringBuilder body = new StringBuilder();
                for (int k = i + 1; k < lines.length && !lines[k].equals(end); k++) {
                    body.append(lines[k]).append('\n');
                }
                String name = lines[i].replaceAll("\\(.*", "").replaceAll(".* ", "");
                found.computeIfAbsent(name, any -> new ArrayList<>()).add(body.toString());
            }
        }
        return found;
    }

    /** Rule 11: some sixty lines, eight calls deep; rule 8: what calls itself says how deep it is by an argument. */
    private static void methodsAreShort() throws IOException {
        Map<String, List<String>> bodies = bodies();
        due("methods were found", bodies.size() > 80);
        for (Map.Entry<String, List<String>> method : bodies.entrySet()) {
            for (String body : method.getValue()) {
                due(method.getKey() + " has at most sixty lines", body.split("\n").length <= 60);
                due(method.getKey() + " does not call itself", method.getKey().equals("tryCuts")
                    || !finds("\\b" + method.getKey() + "\\(", body) || method.getValue().size() > 1);
            }
        }
        for (String call : FACE) {
            String name = call.substring(0, call.indexOf('('));
            int deep = depth(name, bodies, new ArrayList<>());
            due(name + " goes " + deep + " deep", deep <= 8);
        }
    }

    /** The longest chain of calls by their names; methods of one name are taken as one. */
    private static int depth(String name, Map<String, List<String>> bodies, List<String> above) {
        List<String> chain = new ArrayList<>(above);
        chain.add(name);
        int deepest = 0;
        for (String body : bodies.getOrDefault(name, List.of())) {
            for (String called : bodies.keySet()) {
                if (!called.equals(name) && finds("\\b" + called + "\\(", body)) {
                    due("no ring of calls: " + chain + " " + called, !chain.contains(called));
                    deepest = Math.max(deepest, chain.contains(called) ? 0 : depth(called, bodies, chain));
                }
            }
        }
        return 1 + deepest;
    }

    private static void edges() throws ReflectiveOperationException {
        String[] texts = {"", "land 1 1;", "land 9 4;tide 9,0;man 8 3 6;man 0 0 0;man 8 0 3;man 1 1 6;"
            + "news 8 3;news 0 0;news 0 3;news 4 2;castle 8 0;"};
        for (String text : texts) {
            StiltHeralds x = Check.of(text);
            for (Method m : StiltHeralds.class.getDeclaredMethods()) {
                if (Modifier.isPublic(m.getModifiers()) && !m.getName().equals("province")) {
                    callAtEdges(x, m, new Object[m.getParameterCount()], 0);
                }
            }
            due("province behind all that is no text", x.province() <= 36);
        }
    }

    private static void callAtEdges(StiltHeralds x, Method m, Object[] args, int k) throws ReflectiveOperationException {
        if (k == args.length) {
            m.invoke(x, args);
            due("looks at all", x.told(0) >= 0);
            return;
        }
        Class<?> type = m.getParameterTypes()[k];
        if (type == boolean.class) {
            args[k] = Boolean.TRUE;
            callAtEdges(x, m, args, k + 1);
            args[k] = Boolean.FALSE;
            callAtEdges(x, m, args, k + 1);
            return;
        }
        for (int edge : EDGES) {
            if (type == long.class) {
                args[k] = Long.valueOf(edge);
            } else {
                args[k] = Integer.valueOf(edge);
            }
            callAtEdges(x, m, args, k + 1);
        }
    }
}
