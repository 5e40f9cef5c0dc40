import java.io.IOException;
import java.nio.file.DirectoryStream;
import java.nio.file.Files;
import java.nio.file.Path;
import java.util.ArrayList;
import java.util.Arrays;
import java.util.List;
import java.util.regex.Matcher;
import java.util.regex.Pattern;

/**
 * The document from its first line to its last: the class has the face that is written there, in the
 * parts that are written there, and every sentence from the terms on is quoted by a test (says(..)).
 */
public final class DocumentTest {
    private static final Path PATH = Path.of("../shared/DOC.md");
    private static final Check CHECK = new Check();

    /** Words that ask for nothing by themselves: how the document is to be read, and what it leaves free. */
    private static final List<String> TELLS_NOTHING = List.of(
        "Words in capitals are told where they come first.",
        "How the state is held inside the object is free, as are the speed of each call, the text of toString and the "
            + "behaviour of equals and hashCode. Use of one object from several threads at once is not promised to be safe. "
            + "Nothing is promised beyond the answers and state changes described above, and nothing about an object after "
            + "its 512th call.");

    private DocumentTest() {
    }

    public static void main(String[] args) throws IOException {
        if (Files.exists(PATH)) {
            String document = Files.readString(PATH);
            face(document);
            parts(document);
            promises(document);
            sentences(document);
        }
        CHECK.end();
    }

    private static void due(String what, boolean is) {
        CHECK.due(what, is ? 1 : 0, 1);
    }

    private static String source() throws IOException {
        return Files.readString(Path.of("src/main/java/StiltHeralds.java"));
    }

    private static String block(String document) {
        int from = document.indexOf("```java") + 7;
        return document.substring(from, document.indexOf("```", from));
    }

    /** Every line of the face stands in the source, with the same types and names, in the same order. */
    private static void face(String document) throws IOException {
        String source = source();
        int at = 0;
        int lines = 0;
        for (String line : block(document).strip().split("\n")) {
            String want = line.strip();
            if (want.endsWith(");")) {
                want = want.substring(0, want.length() - 1) + " {";
            }
            if (!want.equals("}")) {
                int found = source.indexOf(want, at);
                due("the face has '" + want + "' behind the line ahead of it", found >= 0);
                at = Math.max(at, found);
                lines++;
            }
        }
        due("the face was found", lines == 31);
    }

    /** "Ahead of the calls `a`, `b` the interface says: ---- part." */
    private static void parts(String document) throws IOException {
        String source = source();
        Matcher m = Pattern.compile("Ahead of the calls (.*) the interface says: (---- .*)\\.").matcher(document);
        int parts = 0;
        int calls = 0;
        while (m.find()) {
            int from = source.indexOf("// " + m.group(2) + "\n");
            int till = source.indexOf("// ----", from + 1);
            String part = from < 0 ? "" : source.substring(from, till < 0 ? source.length() : till);
            for (String call : m.group(1).replaceAll("[`,]", "").split(" ")) {
                due(call + " stands behind " + m.group(2), part.contains("public int " + call + "("));
                calls++;
            }
            parts++;
        }
        due("five parts, 28 calls", parts == 5 && calls == 28);
    }

    /** Each promise is of the face, and each line of the face but the constants has one. */
    private static void promises(String document) {
        String face = block(document);
        Matcher m = Pattern.compile("## Promise (\\d+): (.*)\n\n`(.*?)`: ").matcher(document);
        List<String> promised = new ArrayList<>();
        while (m.find()) {
            promised.add(m.group(3));
            CHECK.due("promise " + m.group(2), Integer.parseInt(m.group(1)), promised.size());
            due("the face has " + m.group(3), face.contains("public " + m.group(3) + ";"));
        }
        CHECK.due("promises", promised.size(), 29);
    }

    private static String plain(String text) {
        return text.replaceAll("\\s+", " ");
    }

    private static List<String> quotes() throws IOException {
        List<String> all = new ArrayList<>();
        Pattern says = Pattern.compile("says\\(((?:\"(?:[^\"\\\\]|\\\\.)*\"\\s*\\+?\\s*)+)\\)");
        Pattern string = Pattern.compile("\"((?:[^\"\\\\]|\\\\.)*)\"");
        try (DirectoryStream<Path> files = Files.newDirectoryStream(Path.of("src/test/java"), "*Test.java")) {
            for (Path file : files) {
                Matcher m = says.matcher(Files.readString(file));
                while (m.find()) {
                    StringBuilder quote = new StringBuilder();
                    Matcher s = string.matcher(m.group(1));
                    while (s.find()) {
                        quote.append(s.group(1));
                    }
                    all.add(plain(quote.toString()));
                }
            }
        }
        return all;
    }

    private static void cover(char[] open, String document, String quote) {
        for (int i = document.indexOf(quote); i >= 0; i = document.indexOf(quote, i + 1)) {
            Arrays.fill(open, i, i + quote.length(), '|');
        }
    }

    /** From the terms on: what is left behind all quotes, but for signs, headings and what tells nothing. */
    private static void sentences(String document) throws IOException {
        String told = document.substring(document.indexOf("## Terms"));
        told = told.replaceAll("## Promise \\d+: .*\n", " ").replaceAll("(?m)^## .*$", " ");
        told = told.replaceAll("Ahead of the calls .*", " ").replaceAll("```(text)?", " ").replaceAll("======== \\d", " ");
        told = plain(told);
        List<String> quotes = quotes();
        due("quotes were found", quotes.size() > 130);
        char[] open = told.toCharArray();
        for (String quote : quotes) {
            cover(open, told, quote);
        }
        for (String words : TELLS_NOTHING) {
            due("the document has '" + words + "'", told.contains(words));
            cover(open, told, words);
        }
        String left = new String(open).replaceAll("`int \\w+\\([\\w ,]*\\)`:", "|");
        for (String piece : left.split("\\|+")) {
            String words = piece.replaceAll("[^A-Za-z0-9 ]", "").strip();
            due("a test quotes '" + piece.strip() + "'", words.isEmpty());
        }
    }
}
