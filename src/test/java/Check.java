/** What the tests share: rows of calls with the answers that are due, and texts fed byte by byte. */
final class Check {
    static final int NONE = -1;
    static final int UNKNOWN = -1000000001;
    static final int OUTSIDE = -1000000002;
    static final int NOT = -1000000003;
    static final int FULL = -1000000004;

    private int wrong = 0;
    private int asked = 0;

    void due(String call, long got, long want) {
        asked++;
        if (got != want) {
            wrong++;
            if (wrong <= 50) {
                System.out.println(call + " answered " + got + ", due is " + want);
            }
        }
    }

    void end() {
        System.out.println(asked + " answers looked at, " + wrong + " are not as due");
        if (wrong != 0) {
            System.exit(1);
        }
    }

    /** Bytes of a text from a place on, packed as feed() takes them. */
    static long pack(String text, int from, int n) {
        long bytes = 0;
        for (int i = 0; i < n; i++) {
            bytes = bytes << 8 | text.charAt(from + i) & 255;
        }
        return bytes;
    }

    static void feed(StiltHeralds x, String text) {
        for (int at = 0; at < text.length(); at += 8) {
            int n = Math.min(8, text.length() - at);
            x.feed(n, pack(text, at, n));
        }
    }

    static int province(StiltHeralds x, String text) {
        feed(x, text);
        return x.province();
    }

    static StiltHeralds of(String text) {
        StiltHeralds x = new StiltHeralds();
        if (province(x, text) < 0) {
            throw new IllegalStateException("the test's text has a fault at " + x.fault() + ": " + text);
        }
        return x;
    }
}
