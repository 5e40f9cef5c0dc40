import java.util.ArrayList;
import java.util.List;

/**
 * "REFUSALS, of several the first in this order: UNKNOWN .., OUTSIDE .., NOT .., FULL. What is refused
 * changes nothing." Every call with good and wrong numbers at every place, in every mixture: what is
 * answered, and that an object that refused is then as its twin that was never asked.
 */
public final class RefusalsTest extends Sentences {
    private static final int MIN = Integer.MIN_VALUE;
    private static final int MAX = Integer.MAX_VALUE;

    private interface Scene {
        StiltHeralds make();
    }

    private interface Call {
        int on(StiltHeralds x, int[] a);
    }

    /** One number of a call: which it takes, which it does not, and how that is refused. */
    private static final class Place {
        final int refusal;
        final int[] good;
        final int[] wrong;

        Place(int refusal, int[] good, int... wrong) {
            this.refusal = refusal;
            this.good = good;
            this.wrong = wrong;
        }
    }

    public static void main(String[] args) throws ReflectiveOperationException {
        new RefusalsTest().runAll();
    }

    // ---- scenes

    private static final String LAND = "land 4 3;row 0 0,2,0,5;row 2 1,1,9,1;tide 5,6,4;man 0 0 3;man 3 2 1;man 1 1 6;"
        + "news 3 0;news 0 2;castle 2 1;";

    private static StiltHeralds empty() {
        return new StiltHeralds();
    }

    private static StiltHeralds emptied() {
        StiltHeralds x = busyWithoutText();
        x.province();
        x.seed(9);
        return x;
    }

    private static StiltHeralds bare() {
        StiltHeralds x = of("land 4 3;row 1 1,2,3,4;");
        x.hour(4);
        return x;
    }

    /** All that an object can hold, of each some; image 0 is kept, image 1 is not. */
    private static StiltHeralds busy() {
        StiltHeralds x = of(LAND);
        x.seed(4711);
        x.drift(7);
        x.stake(2, 2, true);
        x.keep(0);
        x.order(0, 3);
        x.order(1, 1);
        x.order(2, 4);
        x.stake(3, 0, true);
        x.saw(1, 2);
        x.hour(2);
        x.track(1, 1);
        x.see(1, 2, 2);
        x.see(2, 2, 5);
        x.write(0, 2);
        x.write(2, 1);
        x.write(2, 1);
        x.write(1, 2);
        Check.province(x, "land 4 3;pond");
        Check.feed(x, "land 1 ");
        return x;
    }

    /** Text, steps and book are full; both images are kept. */
    private static StiltHeralds full() {
        StiltHeralds x = busy();
        Check.feed(x, "2;" + " ".repeat(490) + "x");
        for (int k = 3; k <= 20; k++) {
            x.see(2, 2, 20 + k);
        }
        for (int k = 5; k <= 40; k++) {
            x.write(k % 3, 0);
        }
        x.keep(1);
        x.hour(1);
        return x;
    }

    // ---- what can be seen of an object

    private static void lookAt(StiltHeralds x, List<Integer> seen) {
        for (int what = 0; what <= 10; what++) {
            seen.add(x.told(what));
        }
        int men = x.told(3);
        for (int m = 0; m < men; m++) {
            for (int what = 0; what <= 6; what++) {
                seen.add(x.man(m, what));
            }
        }
        int w = x.told(0);
        int cells = w * x.told(1);
        for (int i = 0; i < cells; i++) {
            seen.add(x.depth(i % w, i / w, 1));
        }
        seen.add(x.fits());
        seen.add(x.judge());
        seen.add(x.nobody(NONE));
        int seed = x.seed(0);
        x.seed(seed);
        seen.add(seed);
    }

    private static void lookForStakes(StiltHeralds x, List<Integer> seen) {
        int w = x.told(0);
        int cells = w * x.told(1);
        for (int i = 0; i < cells; i++) {
            seen.add(x.stake(i % w, i / w, false));
        }
    }

    /** The object is used up by this: its images and its text are looked at by going back and by reading. */
    private static List<Integer> allOf(StiltHeralds x) {
        List<Integer> seen = new ArrayList<>();
        seen.add(x.fault());
        lookAt(x, seen);
        lookForStakes(x, seen);
        for (int i = 0; i <= 1; i++) {
            seen.add(x.goBack(i));
            lookAt(x, seen);
            lookForStakes(x, seen);
        }
        seen.add(x.tear());
        seen.add(x.told(0) > 0 ? x.track(0, 0) : 0);
        seen.add(x.province());
        seen.add(x.fault());
        lookAt(x, seen);
        return seen;
    }

    private void sameAsTwin(String call, StiltHeralds asked, List<Integer> twin) {
        due(call + ": all is as it was", allOf(asked).equals(twin) ? 1 : 0, 1);
    }

    // ---- every mixture of good and wrong numbers

    private static int[] range(int least, int most) {
        int[] r = new int[most - least + 1];
        for (int i = 0; i < r.length; i++) {
            r[i] = least + i;
        }
        return r;
    }

    private static int[] ends(int least, int most) {
        return least == most ? new int[] {least} : new int[] {least, most};
    }

    private static Place x(int w) {
        return w == 0 ? new Place(UNKNOWN, new int[0], 0, 1, -1, MIN, MAX)
            : new Place(UNKNOWN, ends(0, w - 1), -1, w, w + 1, MIN, MAX);
    }

    private static Place some(int count) {
        return x(count);
    }

    private static Place number(int least, int most) {
        return new Place(OUTSIDE, ends(least, most), least - 1, most + 1, MIN, MAX);
    }

    private static Place image() {
        return new Place(UNKNOWN, range(0, 1), -1, 2, 3, MIN, MAX);
    }

    private static Place yesOrNo() {
        return new Place(0, range(0, 1));
    }

    /** What is refused at any rate, if no number is wrong: NOT, FULL, or 0 for nothing. */
    private void mixtures(String name, Scene scene, int atAnyRate, Call call, Place... places) {
        mix(name, scene, atAnyRate, call, places, new int[places.length], 0, atAnyRate);
    }

    private void mix(String name, Scene scene, int atAnyRate, Call call, Place[] places, int[] args, int k, int want) {
        if (k == places.length) {
            ask(name, scene, call, args, want);
            return;
        }
        for (int v : places[k].good) {
            args[k] = v;
            mix(name, scene, atAnyRate, call, places, args, k + 1, want);
        }
        for (int v : places[k].wrong) {
            args[k] = v;
            mix(name, scene, atAnyRate, call, places, args, k + 1, earlier(want, places[k].refusal));
        }
    }

    /** The refusals' numbers fall in the document's order, so the earlier one is the greater. */
    private static int earlier(int a, int b) {
        return a == 0 ? b : Math.max(a, b);
    }

    private void ask(String name, Scene scene, Call call, int[] args, int want) {
        StiltHeralds x = scene.make();
        StringBuilder s = new StringBuilder(name);
        for (int v : args) {
            s.append(' ').append(v);
        }
        int got = call.on(x, args);
        if (want == 0) {
            due(s + " is taken", isRefusal(got) ? 0 : 1, 1);
        } else {
            due(s.toString(), got, want);
            sameAsTwin(s.toString(), x, allOf(scene.make()));
        }
    }

    private static boolean is(int v) {
        return v != 0;
    }

    /** The calls about cells, men, news and images, on a land of so many of each. */
    private void calls(Scene scene, int w, int h, int men, int news) {
        mixtures("depth", scene, 0, (x, a) -> x.depth(a[0], a[1], a[2]), x(w), x(h), number(0, 99));
        mixtures("man", scene, 0, (x, a) -> x.man(a[0], a[1]), some(men), number(0, 6));
        mixtures("order", scene, 0, (x, a) -> x.order(a[0], a[1]), some(men), number(0, 4));
        mixtures("saw", scene, 0, (x, a) -> x.saw(a[0], a[1]), some(men), number(0, 6));
        mixtures("stake", scene, 0, (x, a) -> x.stake(a[0], a[1], is(a[2])), x(w), x(h), yesOrNo());
        mixtures("canBe", scene, 0, (x, a) -> x.canBe(a[0], a[1], a[2]), some(men), x(w), x(h));
        mixtures("canHear", scene, 0, (x, a) -> x.canHear(a[0], a[1]), some(men), some(news));
        mixtures("first", scene, 0, (x, a) -> x.first(a[0], a[1]), some(news), number(0, 1));
        mixtures("sawed, the sum", scene, 0, (x, a) -> x.sawed(a[0], a[1], NONE), some(news), number(0, 20));
        Place manOrSum = new Place(UNKNOWN, some(men).good, -2, men, men + 1, MIN, MAX);
        mixtures("sawed", scene, 0, (x, a) -> x.sawed(a[0], a[1], a[2]), some(news), number(0, 20), manOrSum);
        mixtures("bestStake", scene, w == 0 ? NOT : 0, (x, a) -> x.bestStake(a[0], a[1]), some(news), number(0, 1));
        mixtures("inch", scene, 0, (x, a) -> x.inch(a[0], a[1]), some(news), some(men));
        mixtures("alone", scene, 0, (x, a) -> x.alone(a[0]), some(men));
        mixtures("track", scene, 0, (x, a) -> x.track(a[0], a[1]), x(w), x(h));
        mixtures("told", scene, 0, (x, a) -> x.told(a[0]), number(0, 10));
        mixtures("hour", scene, w == 0 ? NOT : 0, (x, a) -> x.hour(a[0]), number(1, 99));
        mixtures("drift", scene, w == 0 ? NOT : 0, (x, a) -> x.drift(a[0]), number(1, 99));
        mixtures("seed", scene, 0, (x, a) -> x.seed(a[0]), new Place(OUTSIDE, ends(0, MAX), -1, -2, MIN));
        mixtures("keep", scene, 0, (x, a) -> x.keep(a[0]), image());
    }

    /** The calls that may find something full. */
    private void adding(Scene scene, int full, int w, int h, int men) {
        mixtures("feed", scene, full, (x, a) -> x.feed(a[0], 0x2020202020202020L), number(1, 8));
        mixtures("see", scene, full, (x, a) -> x.see(a[0], a[1], a[2]), x(w), x(h), number(0, 40));
        mixtures("write", scene, full, (x, a) -> x.write(a[0], a[1]), some(men), number(0, 4));
    }

    public void refusedByANewObject() {
        says("UNKNOWN (a CELL, MAN, NEWS, IMAGE that there is not)");
        calls(RefusalsTest::empty, 0, 0, 0, 0);
        adding(RefusalsTest::empty, 0, 0, 0, 0);
        calls(RefusalsTest::emptied, 0, 0, 0, 0);
        adding(RefusalsTest::emptied, 0, 0, 0, 0);
    }

    public void refusedWithoutMenAndNews() {
        says("OUTSIDE (another number out of its bounds)");
        calls(RefusalsTest::bare, 4, 3, 0, 0);
        adding(RefusalsTest::bare, 0, 4, 3, 0);
    }

    public void refusedInTheMidst() {
        says("REFUSALS, of several the first in this order");
        calls(RefusalsTest::busy, 4, 3, 3, 2);
        adding(RefusalsTest::busy, 0, 4, 3, 3);
    }

    public void refusedWhenFull() {
        says("NOT (not now, as told), FULL.");
        calls(RefusalsTest::full, 4, 3, 3, 2);
        adding(RefusalsTest::full, FULL, 4, 3, 3);
    }

    public void refusedImages() {
        says("NOT: it was not kept.");
        for (Scene scene : new Scene[] {RefusalsTest::empty, RefusalsTest::emptied, RefusalsTest::bare}) {
            mixtures("goBack, none kept", scene, NOT, (x, a) -> x.goBack(a[0]), image());
        }
        Place other = new Place(UNKNOWN, range(1, 1), -1, 2, MIN, MAX);
        mixtures("goBack, the other is kept", RefusalsTest::busy, NOT, (x, a) -> x.goBack(a[0]), other);
        mixtures("goBack, both are kept", RefusalsTest::full, 0, (x, a) -> x.goBack(a[0]), image());
    }

    public void refusedFits() {
        says("NOT: no track() since the text.");
        for (Scene scene : new Scene[] {RefusalsTest::empty, RefusalsTest::emptied, RefusalsTest::bare}) {
            mixtures("fits", scene, NOT, (x, a) -> x.fits());
        }
        mixtures("fits", RefusalsTest::busy, 0, (x, a) -> x.fits());
    }

    /** A text with a fault takes the text away and tells its byte; all else is as it was. */
    public void refusedTexts() {
        says("-10 less the number of its FAULT (all is as it was)");
        String[] texts = {"pond", "land 10 1;", "land 2 2;land 3 3;", "land 2 2;row 0 1,1;row 0 2,2;", "land 9 4;man 8 3 6;news 8 3;"
            + "castle 8 3;tide 9,9,9,9;row 3 9,9,9,9,9,9,9,9,9;stop", "land 1 1;man 0 0 0;man 0 0 0;man 0 0 0;man 0 0 0;man"};
        int[] kinds = {1, 2, 3, 4, 1, 3};
        for (Scene scene : new Scene[] {RefusalsTest::empty, RefusalsTest::bare, RefusalsTest::busyWithoutText}) {
            // the twin's own fault is at another byte, so both are given the same one at last
            StiltHeralds twin = scene.make();
            Check.province(twin, "   pond");
            List<Integer> all = allOf(twin);
            for (int i = 0; i < texts.length; i++) {
                StiltHeralds x = scene.make();
                due(texts[i], Check.province(x, texts[i]), -10 - kinds[i]);
                Check.province(x, "   pond");
                sameAsTwin(texts[i], x, all);
            }
        }
    }

    private static StiltHeralds busyWithoutText() {
        StiltHeralds x = busy();
        x.province();
        return x;
    }

    /** All that only asks. */
    private static List<Call> questions() {
        List<Call> all = new ArrayList<>();
        for (int news = 0; news < 2; news++) {
            int k = news;
            all.add((x, a) -> x.bestStake(k, 0));
            all.add((x, a) -> x.bestStake(k, 1));
            all.add((x, a) -> x.first(k, 0));
            all.add((x, a) -> x.first(k, 1));
            all.add((x, a) -> x.sawed(k, 20, NONE));
            for (int man = 0; man < 3; man++) {
                int m = man;
                all.add((x, a) -> x.sawed(k, 9, m));
                all.add((x, a) -> x.inch(k, m));
                all.add((x, a) -> x.canHear(m, k));
                all.add((x, a) -> x.canBe(m, 3, 2 * k));
                all.add((x, a) -> x.alone(m));
            }
        }
        all.add((x, a) -> x.nobody(NONE));
        all.add((x, a) -> x.nobody(0));
        all.add((x, a) -> x.fits());
        all.add((x, a) -> x.judge());
        all.add((x, a) -> x.fault());
        return all;
    }

    public void whatIsAskedChangesNothing() {
        says("What is refused changes nothing.");
        List<Call> questions = questions();
        int[] no = {};
        for (Scene scene : new Scene[] {RefusalsTest::busy, RefusalsTest::full, RefusalsTest::bare}) {
            StiltHeralds x = scene.make();
            for (int i = 0; i < questions.size() * 2; i++) {
                // forth and back, so that each one stands behind each other one
                int k = i < questions.size() ? i : questions.size() * 2 - 1 - i;
                due("question " + k + " as if it were the first", questions.get(k).on(x, no),
                    questions.get(k).on(scene.make(), no));
            }
            sameAsTwin("what only asks changes nothing either", x, allOf(scene.make()));
        }
    }
}
