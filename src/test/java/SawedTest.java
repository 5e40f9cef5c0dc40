import java.util.Random;

/**
 * SAWED held against its own words: on drawn provinces every way to saw is tried by saw() and first(),
 * in the order MAN by MAN the fewer, and the first of the least sum is the one that is due.
 */
public final class SawedTest {
    private static final int NONE = Check.NONE;
    /** An object is used for 512 calls: each try takes five at most. */
    private static final int TRIES_OF_AN_OBJECT = 60;

    private final Check check = new Check();
    private final Random random;
    private String text;
    private StiltHeralds x;
    private int tries;

    private SawedTest(long seed) {
        random = new Random(seed);
    }

    public static void main(String[] args) {
        SawedTest t = new SawedTest(args.length > 0 ? Long.parseLong(args[0]) : 20261118L);
        // found by search: what is tried for one man must not be left over for the next
        t.hold("land 5 1;row 0 1,2,3,3,4;tide 5,4;man 1 0 4;man 3 0 6;man 1 0 2;news 0 0;castle 3 0;", 4);
        t.hold("land 6 1;row 0 0,4,1,5,2,5;tide 4,5;man 4 0 5;man 0 0 6;man 2 0 6;news 0 0;castle 5 0;", 9);
        t.hold("land 2 5;row 0 2,2;row 1 2,2;row 2 2,2;row 3 1,1;row 4 2,1;man 1 2 2;man 1 1 5;man 1 3 6;"
            + "news 1 4;castle 0 1;", 6);
        for (int run = 0; run < 3000; run++) {
            t.hold(t.land(), t.random.nextInt(21));
        }
        t.check.end();
    }

    private String land() {
        int w = 2 + random.nextInt(5);
        int h = 1 + random.nextInt(Math.min(6, 36 / w));
        int deep = 2 + random.nextInt(6);
        StringBuilder s = new StringBuilder("land " + w + " " + h + ";");
        for (int y = 0; y < h; y++) {
            s.append("row ").append(y).append(' ');
            for (int cx = 0; cx < w; cx++) {
                s.append(cx > 0 ? "," : "").append(random.nextInt(deep + 1));
            }
            s.append(';');
        }
        if (random.nextBoolean()) {
            s.append("tide ").append(3 + random.nextInt(5)).append(',').append(3 + random.nextInt(5)).append(';');
        }
        int men = 1 + random.nextInt(4);
        for (int m = 0; m < men; m++) {
            s.append("man ").append(random.nextInt(w)).append(' ').append(random.nextInt(h)).append(' ')
                .append(2 + random.nextInt(5)).append(';');
        }
        return s.append("news ").append(random.nextInt(w)).append(' ').append(random.nextInt(h)).append(";castle ")
            .append(random.nextInt(w)).append(' ').append(random.nextInt(h)).append(';').toString();
    }

    private void hold(String land, int n) {
        text = land;
        x = Check.of(text);
        tries = 0;
        int men = x.told(3);
        int[] lengths = new int[men];
        int most = 0;
        for (int m = 0; m < men; m++) {
            lengths[m] = x.man(m, 2);
            most += lengths[m];
        }
        int[] cuts = new int[men];
        int sum = 0;
        // the least sum first, so that the first that does it is the one
        while (sum <= most && !findCuts(lengths, cuts, 0, sum, n)) {
            sum++;
        }
        StiltHeralds asked = Check.of(text);
        check.due(text + " sawed(0, " + n + ", NONE)", asked.sawed(0, n, NONE), sum > most ? NONE : sum);
        for (int m = 0; m < men; m++) {
            check.due(text + " sawed(0, " + n + ", " + m + ")", asked.sawed(0, n, m), sum > most ? NONE : cuts[m]);
        }
    }

    private boolean findCuts(int[] lengths, int[] cuts, int m, int left, int n) {
        if (m == lengths.length) {
            return left == 0 && notWithin(lengths, cuts, n);
        }
        for (int cut = 0; cut <= Math.min(left, lengths[m]); cut++) {
            cuts[m] = cut;
            if (findCuts(lengths, cuts, m + 1, left - cut, n)) {
                return true;
            }
        }
        return false;
    }

    private boolean notWithin(int[] lengths, int[] cuts, int n) {
        if (tries == TRIES_OF_AN_OBJECT) {
            x = Check.of(text);
            tries = 0;
        }
        tries++;
        for (int m = 0; m < lengths.length; m++) {
            x.saw(m, lengths[m] - cuts[m]);
        }
        int first = x.first(0, 0);
        return first == NONE || first > n;
    }
}
