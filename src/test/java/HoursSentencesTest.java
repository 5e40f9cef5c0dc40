/** Part 2 of the document (HOURS) and the promises 8 to 12: each boundary case by its sentence. */
public final class HoursSentencesTest extends Sentences {
    private static final int[] DX = {0, 0, 1, 0, -1};
    private static final int[] DY = {0, -1, 0, 1, 0};

    public static void main(String[] args) throws ReflectiveOperationException {
        new HoursSentencesTest().runAll();
    }

    /** 3 by 3 with the man in the middle; all around him is as deep as told. */
    private static StiltHeralds amid(int around, String tide, int stilts) {
        String side = around + ",";
        return of("land 3 3;row 0 " + side + side + around + ";row 1 " + side + "0," + around + ";row 2 " + side + side
            + around + ";" + tide + "man 1 1 " + stilts + ";");
    }

    private void place(String what, StiltHeralds x, int m, int wantX, int wantY) {
        due(what + ": X", x.man(m, 0), wantX);
        due(what + ": Y", x.man(m, 1), wantY);
    }

    // ---- the tide

    public void hoursFromNought() {
        says("HOURS are counted from 0; hour h has the tide of h left over by how many are told.");
        for (int n = 1; n <= 6; n++) {
            StringBuilder s = new StringBuilder("land 1 1;row 0 5;tide 5");
            for (int k = 1; k < n; k++) {
                s.append(',').append(5 - k);
            }
            StiltHeralds x = of(s + ";");
            for (int hour = 0; hour <= 2 * n + 1; hour++) {
                due("the hour", x.told(6), hour);
                due("tide of " + n + " at hour " + hour, x.depth(0, 0, 0), 5 - hour % n);
                due("an hour later", x.depth(0, 0, 1), 5 - (hour + 1) % n);
                x.hour(1);
            }
            x.hour(99);
            due("99 hours later", x.depth(0, 0, 0), 5 - (2 * n + 2 + 99) % n);
        }
    }

    public void depthIsNoughtAtLeast() {
        says("DEPTH of a CELL at an hour: its own and the tide's, 0 at least; with a STAKE on it always 0.");
        StiltHeralds x = of("land 4 1;row 0 0,4,5,6;tide 0,9;");
        int[] low = {0, 0, 0, 1};
        int[] high = {4, 8, 9, 10};
        for (int cx = 0; cx < 4; cx++) {
            due("at low water", x.depth(cx, 0, 0), low[cx]);
            due("at high water", x.depth(cx, 0, 1), high[cx]);
        }
        for (int cx = 0; cx < 4; cx++) {
            x.stake(cx, 0, true);
            for (int n = 0; n <= 99; n += 11) {
                due("on a stake", x.depth(cx, 0, n), 0);
            }
            x.stake(cx, 0, false);
            due("no stake any more", x.depth(cx, 0, 1), high[cx]);
        }
    }

    public void noLessThanNoughtForStilts() {
        says("0 at least");
        StiltHeralds x = of("land 2 1;tide 0;man 0 0 0;");
        due("5 below is no water", x.canBe(0, 1, 0), 1);
        due("not wet", x.man(0, 5), 0);
        x.order(0, 2);
        x.hour(1);
        due("he steps", x.man(0, 0), 1);
        due("no wet knees", x.man(0, 4), 0);
    }

    // ---- steps

    public void fourWays() {
        says("STEPS to a CELL beside his (north Y less 1, east, south, west)");
        for (int way = 0; way <= 4; way++) {
            StiltHeralds x = amid(0, "", 0);
            x.order(0, way);
            x.hour(1);
            place("way " + way, x, 0, 1 + DX[way], 1 + DY[way]);
            x.write(0, way);
            due("no way leads out of the land", x.judge(), way == 0 ? NONE : 0);
        }
    }

    public void staysOrSteps() {
        says("In an hour a MAN stays, or STEPS to a CELL beside his");
        for (int way = 0; way <= 4; way++) {
            StiltHeralds x = of("land 9 4;man 4 2 0;");
            x.order(0, way);
            x.hour(1);
            place("one cell an hour, way " + way, x, 0, 4 + DX[way], 2 + DY[way]);
        }
        StiltHeralds x = of("land 9 4;man 4 2 6;");
        for (int i = 0; i < 36; i++) {
            int far = Math.abs(i % 9 - 4) + Math.abs(i / 9 - 2);
            due("none is gone to aslant", x.canBe(0, i % 9, i / 9), far);
        }
    }

    public void waysAsTold() {
        says("AN HOUR goes by: each goes his way: what was ordered for it (0 stays, 1 .. 4 as told; "
            + "one that may not be: he stays)");
        StiltHeralds x = of("land 5 5;man 2 2 0;man 2 2 0;man 2 2 0;man 2 2 0;");
        for (int m = 0; m < 4; m++) {
            x.order(m, m + 1);
        }
        for (int hour = 1; hour <= 4; hour++) {
            x.hour(1);
            int by = Math.min(2, hour);
            for (int m = 0; m < 4; m++) {
                place("each his own way, hour " + hour, x, m, 2 + by * DX[m + 1], 2 + by * DY[m + 1]);
            }
        }
        for (int m = 0; m < 4; m++) {
            x.order(m, 0);
        }
        x.hour(9);
        for (int m = 0; m < 4; m++) {
            place("all stay", x, m, 2 + 2 * DX[m + 1], 2 + 2 * DY[m + 1]);
        }
    }

    public void noDeeperThanStilts() {
        says("if the DEPTH there at the hour that comes is no more than his STILTS");
        for (int stilts = 0; stilts <= 6; stilts++) {
            for (int way = 1; way <= 4; way++) {
                StiltHeralds x = amid(stilts, "", stilts);
                x.order(0, way);
                x.hour(1);
                place("as deep as his stilts", x, 0, 1 + DX[way], 1 + DY[way]);
                x = amid(stilts + 1, "", stilts);
                x.order(0, way);
                x.hour(1);
                place("one deeper", x, 0, 1, 1);
            }
        }
    }

    public void theHourThatComes() {
        says("at the hour that comes");
        StiltHeralds x = amid(3, "tide 5,4;", 2);
        x.order(0, 2);
        x.hour(1);
        place("deep now, not then", x, 0, 2, 1);
        x = amid(3, "tide 4,5;", 2);
        x.order(0, 2);
        x.hour(1);
        place("deep then, not now", x, 0, 1, 1);
        x.hour(1);
        place("when the tide has come round", x, 0, 2, 1);
        x = amid(3, "tide 4,5,5,5,5,5;", 2);
        x.order(0, 4);
        x.hour(5);
        place("till hour 5 it is too deep", x, 0, 1, 1);
        x.hour(1);
        place("hour 6 has the tide of hour 0", x, 0, 0, 1);
    }

    public void stayAnywhere() {
        says("(He may stay wherever he is.)");
        StiltHeralds x = of("land 2 1;row 0 9,9;tide 9;man 0 0 0;");
        x.hour(99);
        place("13 deep", x, 0, 0, 0);
        for (int k = 0; k < 40; k++) {
            x.write(0, 0);
        }
        due("no stay is wrong", x.judge(), NONE);
        due("he can be where he is", x.canBe(0, 0, 0), 0);
        x.track(0, 0);
        x.see(0, 0, 40);
        due("and so can anybody", x.fits(), 127);
    }

    public void wet() {
        says("WET: at an hour the DEPTH of his CELL is more than his STILTS.");
        for (int stilts = 0; stilts <= 6; stilts++) {
            due("less deep", of("land 1 1;row 0 " + stilts + ";tide 4;man 0 0 " + stilts + ";").man(0, 5), 0);
            due("as deep", of("land 1 1;row 0 " + stilts + ";man 0 0 " + stilts + ";").man(0, 5), 0);
            due("one deeper", of("land 1 1;row 0 " + (stilts + 1) + ";man 0 0 " + stilts + ";").man(0, 5), 1);
        }
        StiltHeralds x = of("land 1 1;row 0 3;tide 5,6;man 0 0 3;");
        due("at hour 0", x.man(0, 5), 0);
        x.hour(1);
        due("at hour 1", x.man(0, 5), 1);
        x.hour(1);
        due("at hour 2", x.man(0, 5), 0);
        x.saw(0, 2);
        due("by shorter stilts", x.man(0, 5), 1);
        x.stake(0, 0, true);
        due("on a stake", x.man(0, 5), 0);
    }

    // ---- an hour goes by

    public void atFirst() {
        says("THE HOUR is 0 at first; MEN are where they are told.");
        StiltHeralds x = of("land 9 4;man 8 3 0;man 0 0 6;man 4 2 3;man 8 3 1;");
        due("the hour", x.told(6), 0);
        place("man 0", x, 0, 8, 3);
        place("man 1", x, 1, 0, 0);
        place("man 2", x, 2, 4, 2);
        place("man 3, on the same cell", x, 3, 8, 3);
        for (int m = 0; m < 4; m++) {
            due("nothing is ordered", x.man(m, 6), 0);
            due("no wet knees", x.man(m, 4), 0);
        }
    }

    public void waysThatMayNotBe() {
        says("one that may not be: he stays");
        StiltHeralds x = of("land 3 2;man 0 0 6;man 2 1 6;");
        int[][] out = {{0, 1}, {0, 4}, {1, 2}, {1, 3}};
        for (int[] o : out) {
            x.order(o[0], o[1]);
            x.hour(9);
            place("out of the land by " + o[1], x, o[0], o[0] * 2, o[0]);
            due("it is still ordered", x.man(o[0], 6), o[1]);
            x.order(o[0], 0);
        }
        StiltHeralds one = of("land 1 1;man 0 0 6;");
        for (int way = 1; way <= 4; way++) {
            one.order(0, way);
            one.hour(2);
            place("one cell, way " + way, one, 0, 0, 0);
        }
        StiltHeralds deep = of("land 2 1;row 0 0,7;man 0 0 6;");
        deep.order(0, 2);
        deep.hour(99);
        place("too deep", deep, 0, 0, 0);
        deep.stake(1, 0, true);
        deep.hour(1);
        place("not on a stake", deep, 0, 1, 0);
    }

    public void rowsDoNotRunOn() {
        says("STEPS to a CELL beside his");
        StiltHeralds x = of("land 3 3;man 2 0 6;man 0 1 6;man 2 1 6;man 0 2 6;");
        x.order(0, 2);
        x.order(1, 4);
        x.order(2, 2);
        x.order(3, 4);
        x.hour(3);
        place("the end of the first row", x, 0, 2, 0);
        place("the beginning of the second", x, 1, 0, 1);
        place("the end of the second", x, 2, 2, 1);
        place("the beginning of the third", x, 3, 0, 2);
    }

    public void hearing() {
        says("MEN on a CELL of NEWS hear it");
        StiltHeralds x = of("land 3 1;man 0 0 0;news 1 0;news 2 0;news 1 0;");
        due("not yet", x.man(0, 3), 0);
        x.order(0, 2);
        x.hour(1);
        due("two at once", x.man(0, 3), 5);
        x.hour(1);
        due("what he knows he keeps", x.man(0, 3), 7);
        x.order(0, 4);
        x.hour(2);
        due("what he knows he keeps", x.man(0, 3), 7);
    }

    public void sharing() {
        says("MEN on one CELL know all that one of them knows");
        StiltHeralds x = of("land 4 1;man 0 0 0;man 1 0 0;man 2 0 0;man 3 0 0;news 0 0;news 1 0;news 2 0;news 3 0;");
        for (int m = 0; m < 4; m++) {
            due("his own", x.man(m, 3), 1 << m);
        }
        x.order(0, 2);
        x.hour(1);
        due("two on a cell: the first", x.man(0, 3), 3);
        due("two on a cell: the second", x.man(1, 3), 3);
        due("beside it is not on it", x.man(2, 3), 4);
        x.order(0, 4);
        x.order(1, 2);
        x.order(3, 4);
        x.hour(1);
        for (int m = 1; m < 4; m++) {
            due("three on a cell", x.man(m, 3), 15);
        }
        due("he went away", x.man(0, 3), 3);
    }

    public void sharingBothWays() {
        says("all that one of them knows");
        for (int knows = 0; knows < 4; knows++) {
            StringBuilder text = new StringBuilder("land 3 1;news 0 0;castle 1 0;");
            for (int m = 0; m < 4; m++) {
                text.append(m == knows ? "man 0 0 0;" : "man 1 0 0;");
            }
            StiltHeralds x = of(text.toString());
            for (int m = 0; m < 4; m++) {
                due("man " + m + " ahead of it", x.man(m, 3), m == knows ? 1 : 0);
            }
            x.order(knows, 2);
            x.hour(1);
            for (int m = 0; m < 4; m++) {
                due("man " + m + " told by " + knows, x.man(m, 3), 1);
            }
            due("at the castle", x.told(10), 1);
        }
    }

    public void passing() {
        says("each goes his way: what was ordered for it");
        StiltHeralds x = of("land 4 1;man 1 0 0;man 2 0 0;news 1 0;");
        x.order(0, 2);
        x.order(1, 4);
        x.hour(1);
        place("all at once", x, 0, 2, 0);
        place("all at once", x, 1, 1, 0);
        x = of("land 4 1;man 1 0 0;man 2 0 0;news 0 0;");
        x.order(0, 4);
        x.hour(1);
        x.order(0, 2);
        x.order(1, 4);
        x.hour(1);
        due("they meet", x.man(1, 3), 1);
        x = of("land 4 1;man 1 0 0;man 2 0 0;news 1 0;");
        x.order(0, 2);
        x.order(1, 2);
        x.hour(1);
        due("on his heels is not on one cell", x.man(1, 3), 0);
        x.hour(1);
        due("he stays at the brink, and is met", x.man(1, 3), 1);
    }

    public void wetKnees() {
        says("WET ones have one more hour of WET KNEES");
        StiltHeralds x = of("land 1 1;row 0 3;tide 5,6,7,5;man 0 0 5;man 0 0 4;man 0 0 3;man 0 0 2;");
        int[][] want = {{0, 0, 0, 0}, {0, 0, 1, 1}, {0, 1, 2, 2}, {0, 1, 2, 3}, {0, 1, 2, 4}, {0, 1, 3, 5}};
        for (int hour = 0; hour < want.length; hour++) {
            for (int m = 0; m < 4; m++) {
                due("man " + m + " at hour " + hour, x.man(m, 4), want[hour][m]);
            }
            x.hour(1);
        }
        x = of("land 1 1;row 0 3;man 0 0 2;");
        x.hour(99);
        due("99 hours at once", x.man(0, 4), 99);
        x.stake(0, 0, true);
        x.hour(9);
        due("none on a stake", x.man(0, 4), 99);
    }

    public void wetWhereHeComes() {
        says("then THE HOUR is one more");
        StiltHeralds x = of("land 2 1;row 0 0,2;tide 5,5,6;man 0 0 2;man 1 0 2;");
        x.order(0, 2);
        x.order(1, 4);
        x.hour(2);
        place("he came at hour 1", x, 0, 1, 0);
        due("and is wet at hour 2", x.man(0, 4), 1);
        place("he left it", x, 1, 0, 0);
        due("and is dry", x.man(1, 4), 0);
    }

    public void atHourNought() {
        says("(At hour 0 they hear, and share, too.)");
        StiltHeralds x = of("land 2 1;man 0 0 0;man 0 0 0;man 1 0 0;news 0 0;castle 0 0;");
        due("he hears", x.man(0, 3), 1);
        due("the other too", x.man(1, 3), 1);
        due("not the third", x.man(2, 3), 0);
        due("at the castle", x.told(10), 1);
        due("he can hear it now", x.canHear(0, 0), 0);
    }

    // ---- promises 8 to 12

    public void orderBounds() {
        says("A MAN is ordered for the hours that come (0 .. 4; it stays): what it was. UNKNOWN, OUTSIDE.");
        StiltHeralds x = of("land 9 1;man 0 0 0;man 8 0 0;");
        bounds("way", 0, 4, OUTSIDE, v -> of("land 9 1;man 0 0 0;").order(0, v));
        bounds("man", 0, 1, UNKNOWN, v -> of("land 9 1;man 0 0 0;man 8 0 0;").order(v, 0));
        int before = 0;
        for (int way : new int[] {4, 3, 2, 1, 0, 2}) {
            due("what it was", x.order(0, way), before);
            due("what it is", x.man(0, 6), way);
            due("not the other's", x.man(1, 6), 0);
            before = way;
        }
        for (int hour = 1; hour <= 9; hour++) {
            x.hour(1);
            due("it stays", x.man(0, 6), 2);
            due("hour by hour", x.man(0, 0), Math.min(8, hour));
        }
        due("what it was", x.order(0, 0), 2);
    }

    public void hourBounds() {
        says("n HOURS (1 .. 99): THE HOUR. OUTSIDE, NOT: no CELLS.");
        bounds("hour", 1, 99, OUTSIDE, v -> of("land 1 1;").hour(v));
        bounds("drift", 1, 99, OUTSIDE, v -> of("land 1 1;").drift(v));
        for (int n = 1; n <= 99; n++) {
            due("hour", of("land 1 1;").hour(n), n);
        }
        StiltHeralds x = of("land 1 1;");
        due("one", x.hour(1), 1);
        due("and 99", x.hour(99), 100);
        due("and 99", x.hour(99), 199);
    }

    public void noHoursWithoutCells() {
        says("NOT: no CELLS.");
        StiltHeralds x = new StiltHeralds();
        for (int n : new int[] {1, 2, 99}) {
            due("new: hour", x.hour(n), NOT);
            due("new: drift", x.drift(n), NOT);
        }
        for (int n : new int[] {0, -1, 100, Integer.MIN_VALUE, Integer.MAX_VALUE}) {
            due("new: hour outside", x.hour(n), OUTSIDE);
            due("new: drift outside", x.drift(n), OUTSIDE);
        }
        due("no hour went by", x.told(6), 0);
        due("no draw was made", x.seed(5), 0);
        due("a cell", Check.province(x, "land 1 1;"), 1);
        due("one cell is enough", x.hour(1), 1);
        due("one cell is enough", x.drift(1), 2);
        Check.province(x, "");
        due("no cells again", x.hour(1), NOT);
        due("no cells again", x.drift(1), NOT);
        due("the seed stayed", x.seed(0), 5);
    }

    public void driftHours() {
        says("n HOURS (1 .. 99) BY DRAWS: THE HOUR. OUTSIDE, NOT: no CELLS.");
        bounds("drift", 1, 99, OUTSIDE, v -> of("land 1 1;man 0 0 0;").drift(v));
        due("no cells", new StiltHeralds().drift(1), NOT);
        StiltHeralds x = of("land 3 3;man 1 1 6;");
        due("one", x.drift(1), 1);
        due("99", x.drift(99), 100);
        for (int n = 1; n <= 99; n += 7) {
            due("drift", of("land 1 1;").drift(n), n);
        }
        StiltHeralds none = of("land 3 3;");
        none.seed(8);
        none.drift(99);
        due("no men, no draws", none.seed(0), 8);
    }

    public void sawBounds() {
        says("STILTS of a MAN become l (0 .. 6): what they were. UNKNOWN, OUTSIDE.");
        bounds("l", 0, 6, OUTSIDE, v -> of("land 1 1;man 0 0 3;").saw(0, v));
        bounds("man", 0, 3, UNKNOWN, v -> of("land 1 1;man 0 0 3;man 0 0 3;man 0 0 3;man 0 0 3;").saw(v, 3));
        StiltHeralds x = of("land 1 1;man 0 0 3;man 0 0 5;");
        int before = 3;
        for (int l : new int[] {0, 6, 1, 5, 5, 2}) {
            due("what they were", x.saw(0, l), before);
            due("what they are", x.man(0, 2), l);
            due("not the other's", x.man(1, 2), 5);
            before = l;
        }
    }

    public void stakeBounds() {
        says("A STAKE on a CELL, or none: 1 there was one, 0 there was none. UNKNOWN.");
        bounds("X", 0, 8, UNKNOWN, v -> of("land 9 4;").stake(v, 0, true));
        bounds("Y", 0, 3, UNKNOWN, v -> of("land 9 4;").stake(0, v, true));
        StiltHeralds x = of("land 9 4;tide 9;");
        for (int i = 0; i < 36; i++) {
            due("none there", x.stake(i % 9, i / 9, true), 0);
            due("one there", x.stake(i % 9, i / 9, true), 1);
        }
        for (int i = 0; i < 36; i++) {
            due("dry", x.depth(i % 9, i / 9, 0), 0);
            due("one there, each its own", x.stake(i % 9, i / 9, false), 1);
            due("none there", x.stake(i % 9, i / 9, false), 0);
            due("wet", x.depth(i % 9, i / 9, 0), 4);
        }
    }
}
