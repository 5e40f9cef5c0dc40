import java.io.IOException;
import java.lang.reflect.Method;
import java.lang.reflect.Modifier;
import java.nio.file.Files;
import java.nio.file.Path;
import java.util.Arrays;
import java.util.Comparator;

/**
 * Tests of the document's sentences, one by one: each public method of a class that extends this one
 * quotes a sentence and then asks for what it says. A quote that the document does not have, and a
 * sentence behind which nothing is asked, are failures too: else a test could outlive its sentence.
 */
abstract class Sentences {
    static final int NONE = Check.NONE;
    static final int UNKNOWN = Check.UNKNOWN;
    static final int OUTSIDE = Check.OUTSIDE;
    static final int NOT = Check.NOT;
    static final int FULL = Check.FULL;

    /** Low water every sixth hour alone, and a cell that is gone to then alone: hours 5, 11, 17, .. 41 from the left. */
    static final String SLOW = "land 9 1;row 0 1,1,1,1,1,1,1,1,1;tide 5,5,5,5,5,4;";

    interface Asked {
        int answer(int v);
    }

    private final Check check = new Check();
    private final String document = document();
    private String sentence = "";
    private int sentences = 0;
    private int askedHere = 0;

    final void runAll() throws ReflectiveOperationException {
        Method[] tests = getClass().getDeclaredMethods();
        Arrays.sort(tests, Comparator.comparing(Method::getName));
        for (Method test : tests) {
            if (Modifier.isPublic(test.getModifiers()) && !Modifier.isStatic(test.getModifiers())) {
                sentence = "";
                askedHere = 0;
                test.invoke(this);
                check.due(test.getName() + " quotes a sentence and asks", sentence.isEmpty() || askedHere == 0 ? 0 : 1, 1);
            }
        }
        System.out.println(sentences + " sentences of the document");
        check.end();
    }

    /** Empty where the tests run without the document: then the quotes are taken as they are. */
    private static String document() {
        Path path = Path.of("../shared/DOC.md");
        try {
            return Files.exists(path) ? plain(Files.readString(path)) : "";
        } catch (IOException e) {
            return "";
        }
    }

    private static String plain(String text) {
        return text.replaceAll("\\s+", " ");
    }

    final void says(String quote) {
        sentence = quote;
        sentences++;
        check.due("the document says '" + quote + "'", document.isEmpty() || document.contains(plain(quote)) ? 1 : 0, 1);
    }

    final void due(String call, long got, long want) {
        askedHere++;
        check.due("[" + sentence + "] " + call, got, want);
    }

    static boolean isRefusal(int answer) {
        return answer >= FULL && answer <= UNKNOWN;
    }

    /** All from the least to the most are taken, and none beside them. */
    final void bounds(String call, int least, int most, int refusal, Asked asked) {
        for (int v = least; v <= most; v++) {
            due(call + " of " + v + " is taken", isRefusal(asked.answer(v)) ? 0 : 1, 1);
        }
        for (int v : new int[] {least - 1, least - 2, most + 1, most + 2, Integer.MIN_VALUE, Integer.MAX_VALUE}) {
            due(call + " of " + v, asked.answer(v), refusal);
        }
    }

    static StiltHeralds of(String text) {
        return Check.of(text);
    }

    final void good(String text, int cells) {
        StiltHeralds x = new StiltHeralds();
        due("province '" + text + "'", Check.province(x, text), cells);
        due("fault '" + text + "'", x.fault(), NONE);
        due("cells of '" + text + "'", x.told(0) * x.told(1), cells);
    }

    /** A fault, its byte, and that what stood ahead of it still stands. */
    final void bad(String text, int kind, int at) {
        StiltHeralds x = of("land 3 2;row 1 1,2,3;tide 6;man 2 1 4;castle 1 1;");
        due("province '" + text + "'", Check.province(x, text), -10 - kind);
        due("fault '" + text + "'", x.fault(), at);
        due("as it was behind '" + text + "'", x.told(0) * 100 + x.told(1) * 10 + x.told(3), 321);
        due("as it was behind '" + text + "'", x.depth(2, 1, 0), 4);
        due("as it was behind '" + text + "'", x.told(7), 11);
    }
}
