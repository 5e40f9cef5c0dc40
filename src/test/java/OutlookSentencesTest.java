/** Part 3 of the document as far as it is about what can be, and the promises 13 to 20. */
public final class OutlookSentencesTest extends Sentences {
    public static void main(String[] args) throws ReflectiveOperationException {
        new OutlookSentencesTest().runAll();
    }

    // ---- being

    public void canBeWithin40() {
        says("CAN BE: hours (from now on) till a MAN can be on a CELL: the fewest; NONE: not within 40.");
        StiltHeralds x = of(SLOW + "man 0 0 0;");
        int[] from0 = {0, 5, 11, 17, 23, 29, 35, NONE, NONE};
        for (int cx = 0; cx < 9; cx++) {
            due("from hour 0 to " + cx, x.canBe(0, cx, 0), from0[cx]);
        }
        x.hour(1);
        int[] from1 = {0, 4, 10, 16, 22, 28, 34, 40, NONE};
        for (int cx = 0; cx < 9; cx++) {
            due("from hour 1 to " + cx, x.canBe(0, cx, 0), from1[cx]);
        }
        x.hour(4);
        due("from hour 5 the next low water is 6 hours off", x.canBe(0, 1, 0), 6);
        due("he is where he is", x.canBe(0, 0, 0), 0);
        due("nothing was changed", x.man(0, 0), 0);
    }

    public void canBeByAWayAround() {
        says("with any orders");
        StiltHeralds x = of("land 3 3;row 0 0,9,0;row 1 0,9,0;row 2 0,0,0;man 0 0 0;");
        x.order(0, 1);
        due("around", x.canBe(0, 2, 0), 6);
        due("never on the dike", x.canBe(0, 1, 0), NONE);
        x.stake(1, 0, true);
        due("over a stake", x.canBe(0, 2, 0), 2);
    }

    public void canBeRefusals() {
        says("CAN BE; NONE. UNKNOWN.");
        StiltHeralds x = of("land 9 4;man 0 0 6;man 8 3 6;");
        bounds("man", 0, 1, UNKNOWN, v -> x.canBe(v, 0, 0));
        bounds("X", 0, 8, UNKNOWN, v -> x.canBe(0, v, 0));
        bounds("Y", 0, 3, UNKNOWN, v -> x.canBe(0, 0, v));
        due("corner to corner", x.canBe(0, 8, 3), 11);
        due("corner to corner", x.canBe(1, 0, 0), 11);
    }

    // ---- being with news

    public void withNow() {
        says("he is there now and knows it (n 0)");
        StiltHeralds x = of("land 3 1;man 0 0 0;news 0 0;castle 2 0;");
        x.order(0, 2);
        x.hour(2);
        due("he knows it, far from where it is", x.canHear(0, 0), 0);
        due("he is at the castle", x.first(0, 0), 0);
        due("he is at the castle", x.first(0, 1), 0);
    }

    public void withSomeHoursFromNow() {
        says("A MAN CAN BE on a CELL WITH a NEWS, n hours from now:");
        for (int castle = 0; castle <= 6; castle++) {
            StiltHeralds x = of("land 7 1;man 2 0 0;news 4 0;castle " + castle + " 0;");
            due("to the news, then to " + castle, x.first(0, 0), 2 + Math.abs(castle - 4));
            due("he hears it first", x.canHear(0, 0), 2);
            x.order(0, 2);
            x.hour(3);
            due("with it at 5 0, to " + castle, x.first(0, 0), Math.abs(castle - 5));
            due("he has heard it", x.canHear(0, 0), 0);
        }
        StiltHeralds two = of("land 7 1;man 2 0 0;news 3 0;news 1 0;castle 2 0;");
        due("each news by itself", two.first(0, 0), 2);
        due("each news by itself", two.first(1, 0), 2);
        two.order(0, 2);
        two.hour(1);
        due("this one he has", two.first(0, 0), 1);
        due("that one he has not", two.first(1, 0), 3);
    }

    public void withAtTheCellOfNews() {
        says("or he CAN BE there then, and it is the CELL of the NEWS");
        StiltHeralds x = of("land 4 1;man 0 0 0;man 3 0 0;news 2 0;castle 2 0;");
        due("two steps", x.canHear(0, 0), 2);
        due("one step", x.canHear(1, 0), 1);
        due("the castle is there", x.first(0, 0), 1);
        due("the castle is there", x.first(0, 1), 1);
        x = of("land 3 1;row 0 0,3,0;man 0 0 2;news 1 0;");
        due("he cannot be there", x.canHear(0, 0), NONE);
    }

    public void withAnother() {
        says("or another MAN CAN BE there WITH it then");
        StiltHeralds x = of("land 7 1;row 0 0,0,0,0,3,3,0;man 0 0 0;man 6 0 3;news 6 0;castle 0 0;");
        due("they meet half way", x.canHear(0, 0), 3);
        due("the castle", x.first(0, 0), 6);
        due("the castle, by him who comes himself and by him who is told there: the least", x.first(0, 1), 0);
        x = of("land 7 1;row 0 0,0,0,0,3,3,0;man 6 0 3;man 0 0 0;man 1 0 0;news 6 0;castle 0 0;");
        due("three of them: the third first", x.canHear(2, 0), 3);
        due("three of them: the second", x.canHear(1, 0), 3);
        due("alone he cannot", of("land 7 1;row 0 0,0,0,0,3,3,0;man 0 0 0;news 6 0;").canHear(0, 0), NONE);
    }

    public void withAnHourAhead() {
        says("or he CAN BE WITH it, an hour ahead, on a CELL from which he may come (or where he stays)");
        StiltHeralds x = of("land 4 1;row 0 0,3,0,0;tide 5,5,5,5,4;man 0 0 2;news 0 0;castle 3 0;");
        due("he waits with it for low water, then goes", x.first(0, 0), 6);
        x.hour(1);
        due("an hour later an hour less", x.first(0, 0), 5);
        x = of("land 3 1;row 0 9,9,0;tide 5,5,5,0;man 1 0 4;man 2 0 0;news 1 0;castle 2 0;");
        due("wet where he stays, he has it", x.canHear(0, 0), 0);
        due("one step to the dry", x.first(0, 0), 1);
        x = of("land 2 1;row 0 9,9;man 0 0 0;man 1 0 0;news 0 0;castle 1 0;");
        due("both stay where they are", x.canHear(1, 0), NONE);
        due("it never comes", x.first(0, 0), NONE);
    }

    public void canHearWithin40() {
        says("CAN HEAR: the fewest hours till he CAN BE anywhere WITH it; NONE: not within 40.");
        StiltHeralds x = of(SLOW + "man 0 0 0;news 7 0;news 6 0;news 0 0;");
        due("41 hours", x.canHear(0, 0), NONE);
        due("35 hours", x.canHear(0, 1), 35);
        due("now", x.canHear(0, 2), 0);
        x.hour(1);
        due("40 hours", x.canHear(0, 0), 40);
        StiltHeralds met = of(SLOW + "man 0 0 0;man 8 0 0;news 0 0;");
        due("they come towards one another: 4 steps each", met.canHear(1, 0), 23);
        due("alone it is too far", of(SLOW + "man 8 0 0;news 0 0;").canHear(0, 0), NONE);
    }

    public void canHearRefusals() {
        says("CAN HEAR; NONE. UNKNOWN.");
        StiltHeralds x = of("land 2 1;man 0 0 0;man 1 0 0;news 0 0;news 0 0;news 1 0;");
        bounds("man", 0, 1, UNKNOWN, v -> x.canHear(v, 0));
        bounds("news", 0, 2, UNKNOWN, v -> x.canHear(0, v));
    }

    public void firstWithin40() {
        says("FIRST: the fewest hours till a MAN CAN BE at the castle WITH it; which one (of several the least); "
            + "NONE: not within 40.");
        StiltHeralds x = of(SLOW + "man 0 0 0;news 0 0;castle 7 0;");
        due("41 hours", x.first(0, 0), NONE);
        due("by nobody", x.first(0, 1), NONE);
        x.hour(1);
        due("40 hours", x.first(0, 0), 40);
        due("by him", x.first(0, 1), 0);
        due("none without men", of("land 1 1;news 0 0;").first(0, 0), NONE);
        due("none without men", of("land 1 1;news 0 0;").first(0, 1), NONE);
    }

    public void theLeastOfSeveral() {
        says("which one (of several the least)");
        for (int first = 0; first < 4; first++) {
            StringBuilder s = new StringBuilder("land 5 1;row 0 0,0,3,0,0;news 0 0;castle 4 0;");
            for (int m = 0; m < 4; m++) {
                s.append("man 0 0 ").append(m < first ? 2 : 3).append(';');
            }
            due("the first who can", of(s.toString()).first(0, 1), first);
            due("in how many hours", of(s.toString()).first(0, 0), 4);
        }
        StiltHeralds x = of("land 5 1;man 4 0 0;man 0 0 0;man 3 0 0;news 3 0;castle 4 0;");
        due("he is told at the castle as the other comes", x.first(0, 1), 0);
        due("in an hour", x.first(0, 0), 1);
    }

    public void firstRefusals() {
        says("FIRST: what = 0 hours, 1 by whom; NONE. UNKNOWN, OUTSIDE.");
        StiltHeralds x = of("land 2 1;man 0 0 0;news 0 0;news 1 0;");
        bounds("what", 0, 1, OUTSIDE, v -> x.first(0, v));
        bounds("news", 0, 1, UNKNOWN, v -> x.first(v, 0));
        due("both", x.first(2, 2), UNKNOWN);
    }

    // ---- sawed

    public void sawedHours() {
        says("so that FIRST of a NEWS is not within n hours (0 .. 20)");
        StiltHeralds x = of("land 9 1;row 0 1,1,1,1,1,1,1,1,1;tide 6,6,6,6,6,5;man 0 0 1;news 0 0;castle 3 0;");
        due("first in 17 hours", x.first(0, 0), 17);
        for (int n = 0; n <= 20; n++) {
            due("within " + n, x.sawed(0, n, NONE), n < 17 ? 0 : 1);
            due("his, within " + n, x.sawed(0, n, 0), n < 17 ? 0 : 1);
        }
        x = of("land 9 1;row 0 1,1,1,1,1,1,1,1,1;tide 6,6,6,6,6,5;man 0 0 1;news 0 0;castle 4 0;");
        x.hour(2);
        due("first in 21 hours", x.first(0, 0), 21);
        due("21 is not within 20", x.sawed(0, 20, NONE), 0);
        x.hour(1);
        due("first in 20 hours", x.first(0, 0), 20);
        due("20 is within 20", x.sawed(0, 20, NONE), 1);
        due("20 is not within 19", x.sawed(0, 19, NONE), 0);
        due("now is within 0", of("land 2 1;man 0 0 6;news 0 0;").sawed(0, 0, NONE), NONE);
        due("in an hour is not within 0", of("land 2 1;man 0 0 6;news 0 0;castle 1 0;").sawed(0, 0, NONE), 0);
    }

    public void sawedBounds() {
        says("SAWED: m = NONE the sum, else by how much a MAN's; NONE. UNKNOWN, OUTSIDE.");
        StiltHeralds x = of("land 3 1;row 0 0,3,0;man 0 0 3;man 0 0 2;news 0 0;news 2 0;castle 2 0;");
        bounds("n", 0, 20, OUTSIDE, v -> x.sawed(0, v, NONE));
        bounds("news", 0, 1, UNKNOWN, v -> x.sawed(v, 1, NONE));
        bounds("man", NONE, 1, UNKNOWN, v -> x.sawed(0, 1, v));
        due("the sum", x.sawed(0, 20, NONE), 1);
        due("the first's", x.sawed(0, 20, 0), 1);
        due("the second's", x.sawed(0, 20, 1), 0);
        due("unknown ahead of outside", x.sawed(2, 21, NONE), UNKNOWN);
        due("unknown ahead of outside", x.sawed(0, 21, 2), UNKNOWN);
        due("unknown ahead of outside", x.sawed(0, -1, -2), UNKNOWN);
    }

    public void sawedToNoughtAtLeast() {
        says("SAWED: STILTS of MEN made shorter by whole inches (as they are less, 0 at least)");
        for (int stilts = 0; stilts <= 6; stilts++) {
            StiltHeralds x = of("land 3 1;row 0 0,1,0;man 0 0 " + stilts + ";news 0 0;castle 2 0;");
            due("down to 0", x.sawed(0, 20, NONE), stilts);
            due("down to 0", x.sawed(0, 20, 0), stilts);
            due("nothing was sawed", x.man(0, 2), stilts);
            x = of("land 3 1;man 0 0 " + stilts + ";news 0 0;castle 2 0;");
            due("0 is not enough", x.sawed(0, 20, NONE), NONE);
            due("0 is not enough", x.sawed(0, 20, 0), NONE);
        }
        StiltHeralds x = of("land 3 1;row 0 0,1,0;man 0 0 6;news 0 0;castle 2 0;");
        x.saw(0, 2);
        due("as they are now", x.sawed(0, 20, NONE), 2);
    }

    public void sawedTheLeastSum() {
        says("the least sum of inches; of like ones the first (MAN by MAN the fewer); NONE.");
        // one brings it over a ditch, the other comes over his to fetch it: within 7 hours both are needed
        StiltHeralds x = of("land 5 1;row 0 0,2,0,3,0;man 0 0 2;man 4 0 3;news 0 0;castle 4 0;");
        due("in 4 hours", x.sawed(0, 3, NONE), 0);
        for (int n = 4; n <= 7; n++) {
            due("an inch of either", x.sawed(0, n, NONE), 1);
            due("the first keeps his", x.sawed(0, n, 0), 0);
            due("the second's", x.sawed(0, n, 1), 1);
        }
        x = of("land 5 1;row 0 0,2,0,3,0;man 4 0 3;man 0 0 2;news 0 0;castle 4 0;");
        due("told the other way round: an inch of either", x.sawed(0, 7, NONE), 1);
        due("told the other way round: the first keeps his", x.sawed(0, 7, 0), 0);
        due("told the other way round: the second's", x.sawed(0, 7, 1), 1);
        due("8 hours are enough for him alone", x.sawed(0, 8, NONE), 1);
        due("8 hours are enough for him alone", x.sawed(0, 8, 0), 1);
        due("8 hours are enough for him alone", x.sawed(0, 8, 1), 0);
        String three = "man 4 0 6;man 4 0 6;man 4 0 6;news 0 0;castle 4 0;";
        x = of("land 5 1;row 0 0,2,0,6,0;man 0 0 5;" + three);
        due("an inch of three is less than four of one", x.sawed(0, 7, NONE), 3);
        for (int m = 0; m < 4; m++) {
            due("an inch of three", x.sawed(0, 7, m), m == 0 ? 0 : 1);
        }
        x = of("land 5 1;row 0 0,3,0,6,0;man 0 0 5;" + three);
        due("an inch of three is like three of one", x.sawed(0, 7, NONE), 3);
        for (int m = 0; m < 4; m++) {
            due("of like ones the first", x.sawed(0, 7, m), m == 0 ? 0 : 1);
        }
        x = of("land 5 1;row 0 0,4,0,6,0;man 0 0 5;" + three);
        due("two of one are less than an inch of three", x.sawed(0, 7, NONE), 2);
        for (int m = 0; m < 4; m++) {
            due("two of one", x.sawed(0, 7, m), m == 0 ? 2 : 0);
        }
        due("within 8 they come themselves", x.sawed(0, 8, NONE), 3);
        due("within 8 they come themselves", x.sawed(0, 8, 0), 0);
        due("none is needed", of("land 2 1;row 0 0,9;man 0 0 6;news 0 0;castle 1 0;").sawed(0, 20, NONE), 0);
        due("no men", of("land 1 1;news 0 0;").sawed(0, 20, NONE), 0);
        StiltHeralds four = of("land 3 1;row 0 0,1,0;man 0 0 6;man 0 0 6;man 0 0 6;man 0 0 6;news 0 0;castle 2 0;");
        due("all that there is", four.sawed(0, 20, NONE), 24);
        for (int m = 0; m < 4; m++) {
            due("six each", four.sawed(0, 20, m), 6);
        }
    }

    // ---- stakes and inches

    public void bestStakeSoonest() {
        says("STAKE: the CELL on which one makes FIRST soonest (for a NEWS); of like ones the first (Y by Y, X rising); "
            + "how soon; NONE for both: never by any.");
        StiltHeralds x = of("land 3 3;row 0 0,9,0;row 1 9,9,9;row 2 0,9,0;man 0 0 0;news 0 0;castle 1 1;");
        due("never by any: the cell", x.bestStake(0, 0), NONE);
        due("never by any: how soon", x.bestStake(0, 1), NONE);
        x.stake(1, 1, true);
        due("Y by Y", x.bestStake(0, 0), 10);
        due("in two hours", x.bestStake(0, 1), 2);
        x = of("land 3 3;man 2 2 0;news 2 2;castle 2 2;");
        due("now: the first cell of all", x.bestStake(0, 0), 0);
        due("now", x.bestStake(0, 1), 0);
        x = of("land 2 3;row 0 0,9;row 1 9,9;row 2 9,0;man 0 0 0;news 0 0;castle 1 0;");
        due("X rising: the castle itself", x.bestStake(0, 0), 10);
        due("in an hour", x.bestStake(0, 1), 1);
        x = of("land 9 4;row 3 0,0,0,0,0,0,0,0,9;man 7 3 0;news 7 3;castle 8 3;row 2 9,9,9,9,9,9,9,9,9;");
        due("the last cell of all", x.bestStake(0, 0), 83);
        due("the last cell of all", x.bestStake(0, 1), 1);
        due("no stake was set", x.depth(8, 3, 0), 9);
        due("no men", of("land 1 1;news 0 0;").bestStake(0, 0), NONE);
        due("no men", of("land 1 1;news 0 0;").bestStake(0, 1), NONE);
    }

    public void bestStakeWithin40() {
        says("NONE for both: never by any");
        StiltHeralds x = of(SLOW + "man 0 0 0;news 0 0;castle 8 0;");
        due("41 hours with the best", x.bestStake(0, 0), NONE);
        due("41 hours with the best", x.bestStake(0, 1), NONE);
        x.hour(1);
        due("40 hours with the best", x.bestStake(0, 0), 10);
        due("40 hours with the best", x.bestStake(0, 1), 40);
    }

    public void asItIsNow() {
        says("From now, with any orders");
        String text = "land 4 1;row 0 0,2,4,0;man 0 0 3;man 3 0 0;news 0 0;news 3 0;castle 3 0;";
        due("the first call: nobody", of(text).nobody(NONE), 1);
        due("the first call: alone", of(text).alone(0), 2);
        due("the first call: bestStake", of(text).bestStake(0, 0), 20);
        due("the first call: bestStake", of(text).bestStake(0, 1), 3);
        due("the first call: canBe", of(text).canBe(0, 1, 0), 1);
        due("the first call: canHear", of(text).canHear(0, 1), NONE);
        due("the first call: inch", of(text).inch(0, 0), 38);
        StiltHeralds x = of(text);
        x.stake(2, 0, true);
        due("the first call, with a stake: sawed", x.sawed(0, 20, NONE), 2);
        x = of(text);
        x.stake(2, 0, true);
        due("the first call, with a stake: nobody", x.nobody(NONE), 0);
        due("then bestStake", x.bestStake(0, 1), 3);
        x.saw(0, 1);
        due("sawed since: nobody", x.nobody(NONE), 1);
        due("sawed since: alone", x.alone(0), 1);
        due("sawed since: bestStake", x.bestStake(0, 0), 10);
        x.stake(2, 0, false);
        due("no stake since: nobody", x.nobody(NONE), 2);
        due("no stake since: alone", x.alone(1), 1);
        due("no stake since: never by any", x.bestStake(0, 0), NONE);
        due("no stake since: never by any", x.bestStake(0, 1), NONE);
        due("no stake since: sawed", x.sawed(0, 20, NONE), 0);
        due("no stake since: the other news", x.bestStake(1, 0), 0);
        due("no stake since: first", x.first(0, 0), NONE);
    }

    public void bestStakeRefusals() {
        says("Best STAKE: what = 0 the CELL (10 times X and Y), 1 how soon; NONE. UNKNOWN, OUTSIDE, NOT: no CELLS.");
        StiltHeralds x = of("land 2 1;man 0 0 0;news 0 0;news 1 0;castle 1 0;");
        bounds("what", 0, 1, OUTSIDE, v -> x.bestStake(0, v));
        bounds("news", 0, 1, UNKNOWN, v -> x.bestStake(v, 0));
        due("unknown ahead of outside", x.bestStake(2, 2), UNKNOWN);
        due("without cells there is no news", new StiltHeralds().bestStake(0, 0), UNKNOWN);
        due("without cells there is no news", new StiltHeralds().bestStake(0, 2), UNKNOWN);
    }

    public void inchOfHours() {
        says("INCH: by how many hours FIRST is sooner, if a MAN's STILTS are one longer (NONE counts 41).");
        StiltHeralds x = of("land 3 1;row 0 0,3,0;man 0 0 2;man 0 0 1;news 0 0;castle 2 0;");
        due("from never to 2", x.inch(0, 0), 39);
        due("one is not enough for him", x.inch(0, 1), 0);
        due("never in both", of("land 2 1;row 0 0,9;man 0 0 0;news 0 0;castle 1 0;").inch(0, 0), 0);
        due("from never to 1", of("land 2 1;row 0 0,1;man 0 0 0;news 0 0;castle 1 0;").inch(0, 0), 40);
        due("now in both", of("land 1 1;man 0 0 0;news 0 0;").inch(0, 0), 0);
        // a step at each low water, the last of them over a cell that is one deeper
        String slow = "land 9 1;row 0 1,1,1,1,1,1,1,2,9;tide 6,6,6,6,6,5;";
        x = of(slow + "man 0 0 1;news 0 0;castle 7 0;");
        due("with 2 he need not wait but for the last", x.inch(0, 0), 41 - 11);
        x = of("land 2 1;row 0 0,9;tide 5,5,5,5,5,1;man 0 0 4;news 0 0;castle 1 0;");
        due("from never to 5", x.inch(0, 0), 36);
        x = of("land 2 1;row 0 0,7;man 0 0 6;news 0 0;castle 1 0;");
        due("one longer than 6", x.inch(0, 0), 40);
        due("they are as they were", x.man(0, 2), 6);
    }

    public void inchFrom40() {
        says("(NONE counts 41)");
        StiltHeralds x = of(SLOW + "man 0 0 0;news 0 0;castle 7 0;");
        due("41 hours: never, and 7 with an inch", x.inch(0, 0), 34);
        x.hour(1);
        due("40 hours, and 7 with an inch", x.inch(0, 0), 33);
        // too deep for 1 at all hours, for 2 at all but the hours 5, 11, ..
        String deep = "land 9 1;row 0 1,1,1,1,1,1,1,1,1;tide 7,7,7,7,7,6;man 0 0 1;news 0 0;";
        x = of(deep + "castle 7 0;");
        due("with an inch 41 hours: never in both", x.inch(0, 0), 0);
        x.hour(1);
        due("with an inch 40 hours", x.inch(0, 0), 1);
        x.hour(1);
        due("with an inch 39 hours", x.inch(0, 0), 2);
    }

    public void inchRefusals() {
        says("`int inch(int news, int m)`: INCH. UNKNOWN.");
        StiltHeralds x = of("land 2 1;man 0 0 0;man 0 0 6;news 0 0;news 1 0;news 1 0;castle 1 0;");
        bounds("news", 0, 2, UNKNOWN, v -> x.inch(v, 0));
        bounds("man", 0, 1, UNKNOWN, v -> x.inch(0, v));
    }

    // ---- nobody and alone

    public void nobodyWithin40() {
        says("NOBODY: CELLS to which no MAN CAN BE within 40 hours: how many; the i-th.");
        StiltHeralds x = of(SLOW + "man 0 0 0;");
        due("41 hours", x.nobody(NONE), 2);
        due("the first", x.nobody(0), 70);
        due("the second", x.nobody(1), 80);
        due("no third", x.nobody(2), NONE);
        x.hour(1);
        due("40 hours", x.nobody(NONE), 1);
        due("the first", x.nobody(0), 80);
        due("no second", x.nobody(1), NONE);
        StiltHeralds both = of(SLOW + "man 0 0 0;man 8 0 0;");
        due("the other can", both.nobody(NONE), 0);
        due("the other can", both.nobody(0), NONE);
    }

    public void theFirstHourAndTheLast() {
        says("within 40 hours");
        StiltHeralds x = of(SLOW.replace("5,5,5,5,5,4", "5,4,5,5,5,5") + "man 0 0 0;");
        due("low water in an hour, the seventh in 37: eight cells", x.nobody(NONE), 1);
        due("he alone can be on all of them", x.alone(0), 8);
        due("in an hour", x.canBe(0, 1, 0), 1);
        x = of(SLOW.replace("5,5,5,5,5,4", "4,5,5,5,5,5") + "man 0 0 0;");
        due("low water now is of no use, the sixth is in 36", x.nobody(NONE), 2);
        due("low water now is of no use, the sixth is in 36", x.alone(0), 7);
        due("in six hours", x.canBe(0, 1, 0), 6);
        x.hour(2);
        due("the seventh is in 40", x.nobody(NONE), 1);
        due("the seventh is in 40", x.alone(0), 8);
    }

    public void nobodyInOrder() {
        says("NOBODY: i = NONE how many, else the i-th (10 times X and Y; Y by Y, X rising); NONE: not so many.");
        StiltHeralds none = of("land 9 4;");
        due("all", none.nobody(NONE), 36);
        for (int i = 0; i < 36; i++) {
            due("the i-th", none.nobody(i), 10 * (i % 9) + i / 9);
        }
        for (int i : new int[] {36, 37, 100, Integer.MAX_VALUE, -2, -3, Integer.MIN_VALUE}) {
            due("not so many: " + i, none.nobody(i), NONE);
        }
        due("no cells", new StiltHeralds().nobody(NONE), 0);
        due("no cells", new StiltHeralds().nobody(0), NONE);
        due("one man, one cell", of("land 1 1;man 0 0 0;").nobody(NONE), 0);
        due("one man, one cell", of("land 1 1;man 0 0 0;").nobody(0), NONE);
    }

    public void aloneOfAll() {
        says("ALONE: how many CELLS there are to which of all MEN just this one CAN BE.");
        StiltHeralds x = of(SLOW + "man 0 0 0;man 8 0 0;");
        due("41 hours: two he cannot", x.alone(0), 2);
        due("41 hours: two he cannot", x.alone(1), 2);
        x.hour(1);
        due("40 hours: one he cannot", x.alone(0), 1);
        due("40 hours: one he cannot", x.alone(1), 1);
        StiltHeralds one = of("land 9 4;man 4 2 0;");
        due("one man: all", one.alone(0), 36);
        StiltHeralds two = of("land 9 4;man 4 2 0;man 4 2 0;");
        due("two alike: none", two.alone(0) + two.alone(1), 0);
        StiltHeralds wet = of("land 3 1;row 0 9,9,9;man 0 0 0;man 2 0 6;");
        due("where he is", wet.alone(0), 1);
        due("where he is", wet.alone(1), 1);
    }

    public void aloneRefusals() {
        says("`int alone(int m)`: ALONE. UNKNOWN.");
        StiltHeralds x = of("land 2 1;man 0 0 0;man 0 0 0;man 0 0 0;");
        bounds("man", 0, 2, UNKNOWN, v -> x.alone(v));
        due("a new one", new StiltHeralds().alone(0), UNKNOWN);
    }
}
