import java.util.Random;

/** Runs of drawn calls on drawn provinces, each answer held against the slow model's. */
public final class ModelTest {
    private static final String[] WORDS = {"land", "row", "tide", "man", "news", "castle", "pond"};

    private final Check check = new Check();
    private final Random random;
    private StiltHeralds x;
    private Model model;
    private int costly;
    private String run = "";

    private ModelTest(long seed) {
        random = new Random(seed);
    }

    public static void main(String[] args) {
        ModelTest t = new ModelTest(args.length > 0 ? Long.parseLong(args[0]) : 20261118L);
        for (int run = 0; run < 6000; run++) {
            t.textRun(run);
        }
        for (int run = 0; run < 400; run++) {
            t.callRun(run);
        }
        t.check.end();
    }

    private int draw(int n) {
        return random.nextInt(n);
    }

    /** Mostly within 0 .. n less 1, now and then beside it. */
    private int about(int n) {
        return draw(25) == 0 ? draw(n + 6) - 3 : draw(Math.max(1, n));
    }

    private String blanks() {
        return draw(6) == 0 ? " ".repeat(draw(3)) : "";
    }

    private String numbers(int count, int bound) {
        StringBuilder s = new StringBuilder();
        for (int i = 0; i < count; i++) {
            s.append(i > 0 ? "," : "").append(blanks()).append(draw(bound)).append(blanks());
        }
        return s.toString();
    }

    private String land() {
        int w = 1 + draw(9);
        int h = 1 + draw(Math.min(9, 36 / w));
        int deep = 1 + draw(10);
        StringBuilder s = new StringBuilder(blanks() + "land " + w + " " + h + blanks() + ";");
        int tideAt = draw(h + 1);
        for (int y = 0; y < h; y++) {
            if (y == tideAt) {
                s.append(draw(2) == 0 ? "tide " + numbers(1 + draw(6), 10) + ";" : "tide " + (4 + draw(3)) + ",6,4;");
            }
            if (draw(8) > 0) {
                s.append(blanks()).append("row ").append(y).append(' ').append(numbers(w, deep)).append(';');
            }
        }
        int men = draw(5);
        int longest = 1 + draw(7);
        for (int m = 0; m < men; m++) {
            s.append("man ").append(draw(w)).append(' ').append(draw(h)).append(' ').append(draw(longest)).append(';');
        }
        int news = 1 + draw(4);
        for (int k = 0; k < news; k++) {
            s.append("news ").append(draw(w)).append(' ').append(draw(h)).append(';').append(blanks());
        }
        if (draw(6) > 0) {
            s.append("castle ").append(draw(w)).append(' ').append(draw(h)).append(';');
        }
        return s.toString();
    }

    private String spoiled(String text) {
        StringBuilder s = new StringBuilder(text);
        int times = draw(3);
        for (int k = 0; k <= times && s.length() > 0; k++) {
            int at = draw(s.length());
            switch (draw(7)) {
                case 0: s.deleteCharAt(at); break;
                case 1: s.insert(at, (char) ('0' + draw(10))); break;
                case 2: s.insert(at, ",; a0\u00e9".charAt(draw(6))); break;
                case 3: s.setCharAt(at, "0123456789,; lrtmnc".charAt(draw(19))); break;
                case 4: s.setLength(at); break;
                case 5: insertStatement(s); break;
                default: s.insert(at, ' '); break;
            }
        }
        return s.toString();
    }

    private void insertStatement(StringBuilder s) {
        int at = s.indexOf(";", draw(s.length())) + 1;
        s.insert(at, WORDS[draw(WORDS.length)] + " " + draw(10) + " " + draw(10) + (draw(2) == 0 ? ";" : " " + draw(8) + ";"));
    }

    private void due(String call, int got, int want) {
        check.due(run + call, got, want);
    }

    private void feed(String text) {
        int at = 0;
        while (at < text.length()) {
            int n = Math.min(1 + draw(8), text.length() - at);
            long bytes = Check.pack(text, at, n) | (n < 8 ? random.nextLong() << (8 * n) : 0);
            due("feed " + n, x.feed(n, bytes), model.feed(n, bytes));
            at += n;
        }
    }

    private void province(String text) {
        String s = text.length() > 500 ? text.substring(0, 500) : text;
        feed(s);
        due("province '" + s + "'", x.province(), model.province());
        due("fault '" + s + "'", x.fault(), model.fault());
    }

    private void lookAtAll() {
        for (int what = 0; what <= 10; what++) {
            due("told(" + what + ")", x.told(what), model.told(what));
        }
        for (int m = 0; m < model.told(3); m++) {
            for (int what = 0; what <= 6; what++) {
                due("man(" + m + ", " + what + ")", x.man(m, what), model.man(m, what));
            }
        }
        for (int cy = 0; cy < model.told(1); cy++) {
            for (int cx = 0; cx < model.told(0); cx++) {
                due("depth(" + cx + ", " + cy + ", 1)", x.depth(cx, cy, 1), model.depth(cx, cy, 1));
            }
        }
    }

    private void textRun(int number) {
        run = "text " + number + ": ";
        x = new StiltHeralds();
        model = new Model();
        province(land());
        province(spoiled(land()));
        lookAtAll();
        province(spoiled(land()));
        lookAtAll();
        if (draw(8) == 0) {
            province(blanks());
            lookAtAll();
        }
    }

    private void callRun(int number) {
        run = "run " + number + ": ";
        x = new StiltHeralds();
        model = new Model();
        costly = 0;
        province(land());
        for (int k = 0; k < 120; k++) {
            if (draw(60) == 0) {
                province(draw(2) == 0 ? land() : spoiled(land()));
            }
            call(draw(25));
        }
        lookAtAll();
    }

    private void call(int which) {
        int m = about(model.told(3));
        int news = about(model.told(4));
        int cx = about(model.told(0));
        int cy = about(model.told(1));
        int way = about(5);
        boolean is = draw(2) == 0;
        int n = about(8) + 1;
        switch (which) {
            case 0: due("depth", x.depth(cx, cy, n * 9), model.depth(cx, cy, n * 9)); break;
            case 1: due("man", x.man(m, way), model.man(m, way)); break;
            case 2: due("order", x.order(m, way), model.order(m, way)); break;
            case 3: due("hour", x.hour(n), model.hour(n)); break;
            case 4: due("drift", x.drift(n), model.drift(n)); break;
            case 5: due("saw", x.saw(m, way), model.saw(m, way)); break;
            case 6: due("stake", x.stake(cx, cy, is), model.stake(cx, cy, is)); break;
            case 7: due("canBe", x.canBe(m, cx, cy), model.canBe(m, cx, cy)); break;
            case 8: due("canHear", x.canHear(m, news), model.canHear(m, news)); break;
            case 9: due("first", x.first(news, n & 1), model.first(news, n & 1)); break;
            case 10: sawed(news, about(21)); break;
            case 11: bestStake(news); break;
            case 12: due("inch", x.inch(news, m), model.inch(news, m)); break;
            case 13: due("nobody", x.nobody(n - 2), model.nobody(n - 2)); break;
            case 14: due("alone", x.alone(m), model.alone(m)); break;
            case 15: due("track", x.track(cx, cy), model.track(cx, cy)); break;
            case 16: walk(cx, cy); break;
            case 17: due("fits", x.fits(), model.fits()); break;
            case 18: due("write", x.write(m, way), model.write(m, way)); break;
            case 19: due("judge", x.judge(), model.judge()); break;
            case 20: seed(random.nextInt()); break;
            case 21: keep(about(2)); break;
            case 22: goBack(about(2)); break;
            case 23: if (draw(6) == 0) due("tear", x.tear(), model.tear()); break;
            default: lookAtAll(); break;
        }
    }

    private void sawed(int news, int n) {
        if (costly++ < 3) {
            for (int m = -1; m < Math.max(1, model.told(3)); m += 1 + draw(3)) {
                due("sawed(" + news + ", " + n + ", " + m + ")", x.sawed(news, n, m), model.sawed(news, n, m));
            }
        }
    }

    private void bestStake(int news) {
        if (costly++ < 4) {
            due("bestStake cell", x.bestStake(news, 0), model.bestStake(news, 0));
            due("bestStake hours", x.bestStake(news, 1), model.bestStake(news, 1));
        }
    }

    /** Steps beside one another, as drawn cells alone would hardly ever fit. */
    private void walk(int fromX, int fromY) {
        due("track", x.track(fromX, fromY), model.track(fromX, fromY));
        int cx = fromX;
        int cy = fromY;
        int at = 0;
        for (int k = 0; k < 6; k++) {
            int by = 1 + draw(3);
            at += by;
            cx += draw(3) - 1;
            cy += draw(3) - 1;
            due("see", x.see(cx, cy, at), model.see(cx, cy, at));
            due("fits behind see", x.fits(), model.fits());
        }
    }

    private void seed(int v) {
        due("seed(" + v + ")", x.seed(v), model.seed(v));
    }

    private void keep(int i) {
        due("keep(" + i + ")", x.keep(i), model.keep(i));
    }

    private void goBack(int i) {
        due("goBack(" + i + ")", x.goBack(i), model.goBack(i));
        lookAtAll();
    }
}
