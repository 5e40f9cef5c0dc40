/** Part 3 of the document as far as it is about footsteps, THE BOOK, draws and images, and the promises 21 to 29. */
public final class BooksSentencesTest extends Sentences {
    private static final long MODULUS = 1L << 31;

    public static void main(String[] args) throws ReflectiveOperationException {
        new BooksSentencesTest().runAll();
    }

    // ---- footsteps

    public void stepsSeenAtMost() {
        says("STEPS SEEN (20 at most)");
        StiltHeralds x = of("land 2 1;row 0 0,3;");
        x.track(0, 0);
        for (int k = 1; k <= 20; k++) {
            due("see", x.see(1, 0, 2 * k), k);
            due("seen", x.told(8), k);
        }
        due("full", x.see(0, 0, 0), FULL);
        due("full", x.told(8), 20);
        due("the 20th counts", x.fits(), 120);
        due("the last one counts", x.track(1, 0), 20);
        due("empty", x.told(8), 0);
        for (int k = 1; k < 20; k++) {
            x.see(1, 0, 0);
        }
        due("the 20th", x.see(0, 0, 0), 20);
        due("the 20th counts", x.fits(), 0);
    }

    public void somebodyUnknown() {
        says("somebody unknown, on STILTS of unknown length, who begins on a CELL");
        String land = "land 4 1;row 0 0,2,4,6;";
        for (String men : new String[] {"", "man 0 0 0;", "man 3 0 6;man 0 0 1;", "man 0 0 0;man 0 0 2;man 0 0 4;man 0 0 6;"}) {
            StiltHeralds x = of(land + men);
            x.track(0, 0);
            for (int cx = 1; cx < 4; cx++) {
                x.see(cx, 0, cx);
                due("he is none of the men: over " + 2 * cx, x.fits(), 127 >> 2 * cx << 2 * cx);
            }
            due("no man went", x.told(3) == 0 ? 0 : x.man(0, 4), 0);
        }
    }

    public void behindHours() {
        says("is on a CELL behind n hours (0 .. 40)");
        bounds("n", 0, 40, OUTSIDE, v -> of("land 1 1;").see(0, 0, v));
        StiltHeralds x = of(SLOW);
        x.track(0, 0);
        x.see(7, 0, 40);
        due("41 hours: of those that need low water none", x.fits(), 126);
        x.hour(1);
        due("40 hours: all", x.fits(), 127);
        x.track(0, 0);
        x.see(7, 0, 39);
        due("39 hours: one too few", x.fits(), 126);
        x.track(3, 0);
        x.see(3, 0, 0);
        due("behind 0 hours where it begins", x.fits(), 127);
        x.see(4, 0, 0);
        due("behind 0 hours beside it", x.fits(), 0);
    }

    public void atTheHourThatIs() {
        says("who begins on a CELL at THE HOUR that is (when it is asked)");
        StiltHeralds x = of("land 2 1;row 0 0,3;tide 5,4,6,2;");
        x.track(0, 0);
        x.see(1, 0, 1);
        int[] least = {2, 4, 0, 3};
        for (int hour = 0; hour < 9; hour++) {
            due("asked at hour " + hour, x.fits(), 127 >> least[hour % 4] << least[hour % 4]);
            x.hour(1);
        }
        x.stake(1, 0, true);
        due("and with the stakes that are", x.fits(), 127);
    }

    public void lengthsThatFit() {
        says("FITS: lengths 0 to 6 (a SET) by which it can be (as one MAN, at all of these).");
        for (int deep = 0; deep <= 9; deep++) {
            StiltHeralds x = of("land 2 1;row 0 0," + deep + ";");
            x.track(0, 0);
            due("nothing seen: all", x.fits(), 127);
            x.see(1, 0, 1);
            due("over " + deep, x.fits(), deep > 6 ? 0 : 127 >> deep << deep);
            x.track(1, 0);
            x.see(0, 0, 1);
            due("out of " + deep + " anybody can", x.fits(), 127);
        }
        StiltHeralds x = of("land 3 3;row 0 0,2,0;row 1 4,9,6;row 2 0,3,0;");
        x.track(0, 0);
        x.see(2, 0, 2);
        due("by the north", x.fits(), 124);
        x.see(0, 0, 4);
        due("and back", x.fits(), 124);
        x.see(0, 2, 6);
        due("and by the west: as one man", x.fits(), 112);
        x.see(2, 2, 8);
        x.see(2, 0, 10);
        due("and by the east", x.fits(), 64);
        x.see(0, 2, 10);
        due("at two cells at once", x.fits(), 0);
    }

    public void seenInAnyOrder() {
        says("as one MAN, at all of these");
        StiltHeralds x = of("land 5 1;row 0 0,1,2,3,4;");
        x.track(0, 0);
        x.see(3, 0, 3);
        x.see(1, 0, 1);
        due("told backwards", x.fits(), 120);
        x.see(3, 0, 3);
        due("told twice", x.fits(), 120);
        x.see(1, 0, 4);
        due("too fast", x.fits(), 0);
        x.track(0, 0);
        x.see(4, 0, 3);
        due("four steps in three hours", x.fits(), 0);
        x.track(0, 0);
        x.see(4, 0, 4);
        due("four steps in four hours", x.fits(), 112);
    }

    public void trackBounds() {
        says("STEPS SEEN begin on a CELL: none are SEEN then; how many there were. UNKNOWN.");
        bounds("X", 0, 8, UNKNOWN, v -> of("land 9 4;").track(v, 0));
        bounds("Y", 0, 3, UNKNOWN, v -> of("land 9 4;").track(0, v));
        StiltHeralds x = of("land 2 1;row 0 0,9;");
        due("there were none", x.track(0, 0), 0);
        x.see(1, 0, 1);
        x.see(1, 0, 2);
        due("nothing fits", x.fits(), 0);
        due("there were two", x.track(0, 0), 2);
        due("none are seen", x.told(8), 0);
        due("all fits", x.fits(), 127);
        due("there were none", x.track(1, 0), 0);
        x.see(0, 0, 0);
        due("it begins elsewhere now", x.fits(), 0);
    }

    public void seeBounds() {
        says("A STEP SEEN behind n hours: how many. UNKNOWN, OUTSIDE, FULL (20).");
        bounds("X", 0, 8, UNKNOWN, v -> of("land 9 4;").see(v, 0, 0));
        bounds("Y", 0, 3, UNKNOWN, v -> of("land 9 4;").see(0, v, 0));
        StiltHeralds x = of("land 2 1;");
        due("ahead of any track", x.see(0, 0, 0), 1);
        due("ahead of any track", x.see(0, 0, 40), 2);
        for (int k = 3; k <= 20; k++) {
            due("ahead of any track", x.see(1, 0, k), k);
        }
        due("full", x.see(0, 0, 0), FULL);
        due("outside ahead of full", x.see(0, 0, 41), OUTSIDE);
        due("outside ahead of full", x.see(0, 0, -1), OUTSIDE);
        due("unknown ahead of both", x.see(2, 0, 41), UNKNOWN);
        due("unknown ahead of full", x.see(0, 1, 0), UNKNOWN);
        due("20 there were", x.track(0, 0), 20);
    }

    public void fitsNot() {
        says("FITS. NOT: no track() since the text.");
        StiltHeralds x = new StiltHeralds();
        due("a new one", x.fits(), NOT);
        Check.province(x, "land 2 1;");
        due("no track yet", x.fits(), NOT);
        x.see(0, 0, 0);
        due("see is no track", x.fits(), NOT);
        x.track(2, 0);
        due("a refused track is none", x.fits(), NOT);
        x.track(1, 0);
        due("a track", x.fits(), 127);
        Check.province(x, "land 2 1");
        due("a text with a fault is none", x.fits(), 127);
        x.keep(0);
        x.goBack(0);
        due("an image has no track in it", x.fits(), 127);
        Check.province(x, "land 2 1;");
        due("no track since the text", x.fits(), NOT);
        x.track(1, 0);
        Check.province(x, "");
        due("nor since an empty one", x.fits(), NOT);
    }

    // ---- the book

    public void bookAtMost() {
        says("THE BOOK is a row of orders (MAN, 0 .. 4), 40 at most");
        StiltHeralds x = of("land 2 1;man 0 0 0;man 1 0 0;");
        for (int k = 1; k <= 39; k++) {
            due("write", x.write(0, k % 2 == 1 ? 2 : 4), k);
            due("entries", x.told(9), k);
        }
        due("39 that may be", x.judge(), NONE);
        due("the 40th", x.write(0, 2), 40);
        due("the 40th may not be", x.judge(), 39);
        due("full", x.write(0, 0), FULL);
        due("full for another", x.write(1, 0), FULL);
        due("40", x.told(9), 40);
        due("as it was", x.judge(), 39);
        due("40 torn", x.tear(), 40);
        due("empty", x.told(9), 0);
        due("the first again", x.write(1, 4), 1);
        due("it may be", x.judge(), NONE);
    }

    public void kthHour() {
        says("tried from now: the k-th entry of a MAN is for the k-th hour from now");
        StiltHeralds x = of("land 3 1;row 0 0,3,0;tide 5,5,5,4;man 0 0 2;man 2 0 2;");
        for (int k = 0; k < 2; k++) {
            x.write(0, 0);
            x.write(1, 0);
        }
        x.write(0, 2);
        x.write(1, 4);
        due("each one's third at hour 3", x.judge(), NONE);
        x.write(0, 4);
        x.write(0, 0);
        x.write(0, 0);
        x.write(0, 2);
        due("his seventh at hour 7", x.judge(), NONE);
        x.write(1, 2);
        x.write(1, 4);
        due("the other's fifth at hour 5", x.judge(), 11);
        x.tear();
        for (int k = 0; k < 38; k++) {
            x.write(0, 0);
        }
        x.write(0, 2);
        due("his 39th at hour 39", x.judge(), NONE);
        x.hour(1);
        due("from now at hour 40", x.judge(), 38);
        x.hour(4);
        due("the tide comes round", x.judge(), 38);
        x.hour(3);
        due("the tide comes round", x.judge(), NONE);
        due("he is where he was", x.man(0, 0), 0);
        due("and nothing is ordered", x.man(0, 6), 0);
    }

    public void wrongFirst() {
        says("WRONG: the first that may not be; NONE.");
        StiltHeralds x = of("land 2 2;row 1 3,4;man 0 0 3;man 1 0 3;");
        due("empty", x.judge(), NONE);
        for (int way : new int[] {1, 4}) {
            x.write(0, way);
            due("out of the land", x.judge(), 0);
            x.tear();
        }
        for (int way : new int[] {1, 2, 3}) {
            x.write(1, way);
            due("out of the land or too deep", x.judge(), 0);
            x.tear();
        }
        for (int way : new int[] {0, 2, 3}) {
            x.write(0, way);
            due("may be", x.judge(), NONE);
            x.tear();
        }
        x.write(1, 0);
        x.write(0, 3);
        x.write(0, 2);
        x.write(1, 3);
        due("the first of two that may not be", x.judge(), 2);
        x.saw(0, 4);
        due("then the second", x.judge(), 3);
        x.saw(1, 4);
        due("then none", x.judge(), NONE);
        x.tear();
        x.write(0, 0);
        x.write(0, 1);
        x.write(1, 1);
        due("the first in the row, though another's hour is sooner", x.judge(), 1);
    }

    public void writeBounds() {
        says("An entry behind THE BOOK: how many. UNKNOWN, OUTSIDE, FULL (40).");
        bounds("man", 0, 3, UNKNOWN, v -> of("land 1 1;man 0 0 0;man 0 0 0;man 0 0 0;man 0 0 0;").write(v, 0));
        bounds("way", 0, 4, OUTSIDE, v -> of("land 1 1;man 0 0 0;").write(0, v));
        StiltHeralds x = of("land 1 1;man 0 0 0;");
        for (int k = 1; k <= 40; k++) {
            due("how many", x.write(0, k % 5), k);
        }
        due("full", x.write(0, 0), FULL);
        due("outside ahead of full", x.write(0, 5), OUTSIDE);
        due("outside ahead of full", x.write(0, -1), OUTSIDE);
        due("unknown ahead of both", x.write(1, 5), UNKNOWN);
        due("unknown ahead of full", x.write(-1, 0), UNKNOWN);
        due("a new one has no man", new StiltHeralds().write(0, 0), UNKNOWN);
    }

    public void tearAnswers() {
        says("THE BOOK is empty: how many entries it had.");
        StiltHeralds x = of("land 2 1;man 0 0 0;");
        due("none", x.tear(), 0);
        x.write(0, 4);
        due("wrong", x.judge(), 0);
        due("one", x.tear(), 1);
        due("empty", x.told(9), 0);
        due("nothing is wrong", x.judge(), NONE);
        due("none again", x.tear(), 0);
        due("a new one", new StiltHeralds().tear(), 0);
    }

    public void judgeEmpty() {
        says("`int judge()`: WRONG; NONE.");
        due("a new one", new StiltHeralds().judge(), NONE);
        due("no men", of("land 1 1;").judge(), NONE);
        StiltHeralds x = of("land 1 1;man 0 0 0;");
        x.write(0, 0);
        due("a stay", x.judge(), NONE);
        x.write(0, 3);
        due("a step", x.judge(), 1);
        Check.province(x, "land 1 1;man 0 0 0;");
        due("no book behind a text", x.judge(), NONE);
    }

    // ---- draws

    private static long after(long seed, int draws) {
        long s = seed;
        for (int k = 0; k < draws; k++) {
            s = (s * 1103515245L + 12345L) % MODULUS;
        }
        return s;
    }

    public void seedAtFirst() {
        says("BY DRAWS: THE SEED (0 at first: each DRAW it becomes it times 1103515245 and 12345, left over by 2 to the 31;");
        due("0 at first", new StiltHeralds().seed(0), 0);
        for (int seed : new int[] {0, 1, 2, 65535, 65536, 1073741823, 1073741824, 2147483646, 2147483647}) {
            StiltHeralds x = of("land 1 1;man 0 0 0;");
            x.seed(seed);
            x.drift(1);
            due("one draw of " + seed, x.seed(seed), after(seed, 1));
            x.drift(99);
            due("99 draws of " + seed, x.seed(seed), after(seed, 99));
        }
    }

    /** Seeds found so that the next one is as wanted: the factor is odd, so each number comes but once. */
    private static int seedAhead(long next) {
        long inverse = 1;
        for (int k = 0; k < 5; k++) {
            inverse = inverse * (2 - 1103515245L * inverse);
        }
        return (int) (Math.floorMod((next - 12345L) * inverse, MODULUS));
    }

    public void cutsTowardsNought() {
        says("All numbers are whole; / cuts towards 0.");
        for (int way = 0; way <= 4; way++) {
            for (long over : new long[] {0, 1, 32767, 32768, 65535}) {
                StiltHeralds x = of("land 1 1;man 0 0 0;");
                x.seed(seedAhead(way * 65536L + over));
                x.drift(1);
                due("what is left over is cut", x.man(0, 6), way);
            }
        }
    }

    public void drawOfN() {
        says("the DRAW of n is it / 65536, left over by n)");
        long[] nexts = {0, 65535, 65536, 131071, 131072, 4 * 65536 - 1, 4 * 65536, 5 * 65536 - 1, 5 * 65536, 32767L * 65536,
            MODULUS - 1, MODULUS - 65536, MODULUS - 65537};
        for (long next : nexts) {
            StiltHeralds x = of("land 1 1;man 0 0 0;");
            x.seed(seedAhead(next));
            x.drift(1);
            due("the draw of 5 from " + next, x.man(0, 6), next / 65536 % 5);
            due("the seed is then " + next, x.seed(0), next);
        }
    }

    public void eachManInOrder() {
        says("n hours: each MAN in order is ordered by a DRAW of 5.");
        int[] dx = {0, 0, 1, 0, -1};
        int[] dy = {0, -1, 0, 1, 0};
        for (int men = 0; men <= 4; men++) {
            StiltHeralds x = of("land 6 6;" + "man 3 3 0;".repeat(men));
            x.seed(77);
            long s = 77;
            int[] px = {3, 3, 3, 3};
            int[] py = {3, 3, 3, 3};
            for (int hour = 1; hour <= 9; hour++) {
                due("the hour", x.drift(1), hour);
                for (int m = 0; m < men; m++) {
                    s = after(s, 1);
                    int way = (int) (s / 65536 % 5);
                    px[m] = Math.max(0, Math.min(5, px[m] + dx[way]));
                    py[m] = Math.max(0, Math.min(5, py[m] + dy[way]));
                    due("ordered", x.man(m, 6), way);
                    due("X", x.man(m, 0), px[m]);
                    due("Y", x.man(m, 1), py[m]);
                }
            }
            StiltHeralds atOnce = of("land 6 6;" + "man 3 3 0;".repeat(men));
            atOnce.seed(77);
            atOnce.drift(9);
            due("nine at once are nine by one", atOnce.seed(0), s);
            for (int m = 0; m < men; m++) {
                due("nine at once are nine by one", atOnce.man(m, 0) * 10 + atOnce.man(m, 1), px[m] * 10 + py[m]);
            }
        }
    }

    public void seedBounds() {
        says("THE SEED becomes v (0 .. 2147483647): what it was. OUTSIDE.");
        StiltHeralds x = new StiltHeralds();
        due("0", x.seed(0), 0);
        due("1", x.seed(1), 0);
        due("the most", x.seed(2147483647), 1);
        due("-1", x.seed(-1), OUTSIDE);
        due("-2", x.seed(-2), OUTSIDE);
        due("the least int", x.seed(Integer.MIN_VALUE), OUTSIDE);
        due("what it was", x.seed(2147483646), 2147483647);
        due("what it was", x.seed(0), 2147483646);
        due("with cells too", of("land 1 1;").seed(-1), OUTSIDE);
    }

    // ---- images

    public void imagesKeep() {
        says("IMAGES 0, 1 keep THE HOUR, MEN (where they are, STILTS, what they know, WET KNEES), orders, STAKES, THE SEED.");
        for (int i = 0; i <= 1; i++) {
            StiltHeralds x = of("land 3 2;row 0 0,4,0;man 1 0 2;man 0 1 5;news 0 0;castle 2 1;");
            x.order(0, 4);
            x.order(1, 2);
            x.stake(2, 1, true);
            x.seed(31);
            x.hour(1);
            x.keep(i);
            x.goBack(1 - i);
            x.order(0, 2);
            x.order(1, 1);
            x.stake(1, 0, true);
            x.stake(2, 1, false);
            x.saw(0, 6);
            x.saw(1, 0);
            x.seed(32);
            x.drift(50);
            x.order(0, 3);
            x.order(1, 3);
            due("goBack", x.goBack(i), 1);
            due("the hour", x.told(6), 1);
            int[][] want = {{0, 0, 2, 1, 0, 0, 4}, {1, 1, 5, 0, 0, 0, 2}};
            for (int m = 0; m < 2; m++) {
                for (int what = 0; what <= 6; what++) {
                    due("man(" + m + ", " + what + ")", x.man(m, what), want[m][what]);
                }
            }
            due("the stake that was", x.stake(2, 1, true), 1);
            due("the stake that was not", x.stake(1, 0, false), 0);
            due("the seed", x.seed(31), 31);
        }
    }

    public void imagesKeepWetKnees() {
        says("WET KNEES");
        StiltHeralds x = of("land 1 1;row 0 3;man 0 0 2;");
        x.keep(1);
        x.hour(3);
        x.keep(0);
        x.hour(99);
        due("102 hours", x.man(0, 4), 102);
        x.goBack(0);
        due("3 hours", x.man(0, 4), 3);
        x.goBack(1);
        due("none", x.man(0, 4), 0);
    }

    public void imagesKeepNoMore() {
        says("images to go on from");
        StiltHeralds x = of("land 2 1;row 0 0,3;man 0 0 0;");
        x.keep(0);
        x.track(0, 0);
        x.see(1, 0, 1);
        x.write(0, 2);
        Check.province(x, "pond");
        Check.feed(x, "land 1 1;");
        x.goBack(0);
        due("the text is not in it", x.told(5), 9);
        due("the fault is not in it", x.fault(), 0);
        due("what was seen is not in it", x.told(8), 1);
        due("the track is not in it", x.fits(), 120);
        due("the book is not in it", x.told(9), 1);
        due("the book is not in it", x.judge(), 0);
        x.hour(5);
        x.keep(1);
        x.goBack(0);
        due("the other image is not in it", x.goBack(1), 1);
        due("the other image", x.told(6), 5);
        due("the text goes on", x.province(), 1);
    }

    public void keepBounds() {
        says("IMAGE i becomes what is so: 1. UNKNOWN.");
        bounds("keep", 0, 1, UNKNOWN, v -> of("land 1 1;").keep(v));
        bounds("keep of a new one", 0, 1, UNKNOWN, v -> new StiltHeralds().keep(v));
        StiltHeralds x = of("land 1 1;");
        due("keep 0", x.keep(0), 1);
        x.hour(3);
        due("keep 1", x.keep(1), 1);
        x.hour(3);
        due("keep 0 again", x.keep(0), 1);
        x.hour(3);
        x.goBack(1);
        due("image 1", x.told(6), 3);
        x.goBack(0);
        due("image 0 is the later one", x.told(6), 6);
        x.hour(1);
        x.goBack(0);
        due("an image is not used up", x.told(6), 6);
    }

    public void goBackBounds() {
        says("What is so becomes IMAGE i: 1. UNKNOWN, NOT: it was not kept.");
        for (int i : new int[] {-1, -2, 2, 3, Integer.MIN_VALUE, Integer.MAX_VALUE}) {
            due("no image " + i, of("land 1 1;").goBack(i), UNKNOWN);
            due("no image " + i, new StiltHeralds().goBack(i), UNKNOWN);
        }
        for (int i = 0; i <= 1; i++) {
            StiltHeralds x = of("land 1 1;");
            due("not kept", x.goBack(i), NOT);
            x.keep(1 - i);
            due("the other was kept", x.goBack(i), NOT);
            x.keep(i);
            due("kept", x.goBack(i), 1);
            Check.province(x, "land 1 1");
            due("a text with a fault leaves it", x.goBack(i), 1);
            Check.province(x, "land 1 1;");
            due("a text does not", x.goBack(i), NOT);
            x.keep(i);
            Check.province(x, "");
            due("nor does an empty one", x.goBack(i), NOT);
            due("kept without cells", x.keep(i), 1);
            due("kept without cells", x.goBack(i), 1);
        }
    }
}
